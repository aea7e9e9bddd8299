import java.util.ArrayList;
import java.util.List;

/** All that the asking calls tell of an object, a line for each of some hundred and forty calls. */
final class Look {
    private final BestBeast x;
    private final List<String> lines = new ArrayList<>();

    private Look(BestBeast x) {
        this.x = x;
    }

    static List<String> at(BestBeast x) {
        Look look = new Look(x);
        look.atAll();
        for (int holder = 0; holder < 4; holder++) {
            look.atHolder(holder);
        }
        for (int beast = 0; beast < 6; beast++) {
            look.atBeast(beast);
        }
        return look.lines;
    }

    /** The first line that tells another answer, or an empty text. */
    static String difference(List<String> got, List<String> want) {
        for (int i = 0; i < got.size(); i++) {
            if (!got.get(i).equals(want.get(i))) {
                return got.get(i) + ", due is " + want.get(i);
            }
        }
        return "";
    }

    private void ask(String name, int... a) {
        lines.add(Calls.told(name, a) + " = " + Calls.made(x, name, a));
    }

    private void atAll() {
        for (int what = 0; what <= 11; what++) {
            ask("count", what);
        }
        ask("fault");
        ask("digest");
        for (int what = 0; what <= 2; what++) {
            ask("manors", 20, 281, what);
        }
    }

    private void atHolder(int holder) {
        for (int what = 0; what <= 8; what++) {
            ask("about", holder, what);
        }
        for (int years : new int[] {1, 3, 4}) {
            ask("giving", holder, years);
            ask("mean", holder, years, 0);
            ask("mean", holder, years, 1);
        }
    }

    private void atBeast(int beast) {
        for (int what = 0; what <= 4; what++) {
            ask("beastOf", beast, what);
        }
        for (int holder = 0; holder < 4; holder++) {
            ask("whose", beast, holder);
        }
    }
}
