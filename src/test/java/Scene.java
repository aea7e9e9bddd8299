import java.util.List;
import java.util.function.Consumer;

/** A run of calls, some sixty at most, that makes the like object as often as a test needs one. */
final class Scene {
    static final List<Scene> ALL = List.of(
        new Scene("nobody", false, false, x -> { }),
        new Scene("one holder, no beasts", false, false, Scene::one),
        new Scene("some of all", true, true, Scene::some),
        new Scene("as many as there may be", true, false, Scene::full),
        new Scene("all are dead and gone", false, false, Scene::gone));

    final String name;
    final boolean hasImage;
    final boolean hasLawOnPage;
    private final Consumer<BestBeast> calls;

    private Scene(String name, boolean hasImage, boolean hasLawOnPage, Consumer<BestBeast> calls) {
        this.name = name;
        this.hasImage = hasImage;
        this.hasLawOnPage = hasLawOnPage;
        this.calls = calls;
    }

    BestBeast made() {
        BestBeast x = new BestBeast();
        calls.accept(x);
        return x;
    }

    private static void read(BestBeast x, String law) {
        Make.write(x, law);
        x.law();
    }

    private static void one(BestBeast x) {
        x.holder(Make.WIDOW, 5);
        x.letter(49);
    }

    /** Holder 1 is dead, beast 1 gone, beast 2 a gift; an image of an earlier year is kept; the page has a law. */
    private static void some(BestBeast x) {
        read(x, "103;5");
        x.holder(Make.HOLDER, 3);
        x.holder(Make.CLERK, 4);
        x.heir(0, 1);
        Make.beasts(x, 0, 30);
        Make.beasts(x, 1, 40);
        x.roll(0, 1);
        x.image();
        x.year();
        x.holder(Make.KNIGHT, 9);
        Make.beasts(x, 0, 20);
        x.give(2, 2);
        x.die(1);
        x.roll(0, 0);
        Make.write(x, "325;9");
    }

    /** Holder 1 is dead, beasts 1 and 4 are gone, beast 2 a gift; the page has eight letters. */
    private static void full(BestBeast x) {
        read(x, "212;4");
        x.holder(Make.HOLDER, 3);
        x.holder(Make.WIDOW, 2);
        x.image();
        x.holder(Make.FREE, 6);
        x.holder(Make.CLERK, 7);
        Make.beasts(x, 0, 60, 4);
        Make.beasts(x, 1, 50);
        Make.beasts(x, 0, 3, 40);
        Make.beasts(x, 3, 99);
        x.heir(0, 3);
        x.heir(3, 0);
        x.year();
        x.give(1, 1);
        x.give(4, 1);
        x.die(1);
        x.give(3, 3);
        x.roll(0, 1);
        x.roll(5, 0);
        Make.write(x, "3;0;1\u0001~9");
    }

    private static void gone(BestBeast x) {
        for (int kind = 0; kind < 4; kind++) {
            x.holder(kind, 2 * kind);
            Make.beasts(x, kind, 10 + kind);
        }
        Make.beasts(x, 0, 1, 99);
        for (int holder = 0; holder < 4; holder++) {
            x.die(holder);
        }
        Make.write(x, "111;0111");
    }
}
