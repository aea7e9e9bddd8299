import java.util.List;
import java.util.function.Consumer;

/** IMAGES, and promises 21 and 22: a test for each sentence that names an edge, and for each thing that is kept. */
public final class ImageEdgesTest {
    private static final Due due = new Due("ImageEdgesTest");

    public static void main(String[] args) {
        noneIsKeptAtFirst();
        anImageOfNobody();
        anImageOfAsManyAsThereMayBe();
        theLatestAlone();
        theYearIsTold();
        itGoesOnFromTheImageAgainAndAgain();
        eachThingThatIsKept();
        thePageIsNotKept();
        howOftenALawWasReadIsNotKept();
        holdersThatComeSinceAreGone();
        beastsThatComeSinceAreGone();
        whoComesThenIsANewOne();
        whatIsRefusedKeepsNoImage();
        due.end();
    }

    private static void noneIsKeptAtFirst() {
        for (Scene scene : Scene.ALL) {
            if (!scene.hasImage) {
                BestBeast x = scene.made();
                Make.refused(due, x, "restore() (" + scene.name + ")", x::restore, Make.STATE);
                Make.refused(due, x, "restore() again (" + scene.name + ")", x::restore, Make.STATE);
                due.is("image() (" + scene.name + ")", x.image(), x.count(8));
                due.is("restore() of it (" + scene.name + ")", x.restore(), x.count(8));
            }
        }
    }

    private static void anImageOfNobody() {
        BestBeast x = new BestBeast();
        long before = x.digest();
        due.is("image() of nobody", x.image(), 0);
        for (int i = 0; i < 4; i++) {
            x.holder(i, 9);
        }
        Make.beasts(x, 0, 1, 2, 3, 4, 5, 6);
        Make.years(x, 5);
        x.die(0);
        due.is("restore() to nobody", x.restore(), 0);
        due.is("digest()", x.digest(), before);
        due.is("about(0, 0)", x.about(0, 0), Make.UNKNOWN);
        due.is("beastOf(0, 0)", x.beastOf(0, 0), Make.UNKNOWN);
        due.is("manors(1, 0, 0)", x.manors(1, 0, 0), Make.STATE);
    }

    private static void anImageOfAsManyAsThereMayBe() {
        for (Scene scene : Scene.ALL) {
            BestBeast x = scene.made();
            List<String> before = Look.at(x);
            x.image();
            String kept = Look.difference(Look.at(x), before);
            due.holds("image() changed nothing (" + scene.name + "): " + kept, kept.isEmpty());
            x.year();
            for (int holder = 0; holder < 4; holder++) {
                x.heir(holder, Make.NONE);
                x.die(holder);
            }
            x.restore();
            String restored = Look.difference(Look.at(x), before);
            due.holds("restore() brought all (" + scene.name + "): " + restored, restored.isEmpty());
        }
    }

    private static void theLatestAlone() {
        BestBeast x = Make.withHolders("111;0", 1);
        x.image();
        x.holder(Make.CLERK, 2);
        x.year();
        due.is("image() in YEAR 1", x.image(), 1);
        x.holder(Make.KNIGHT, 3);
        x.year();
        due.is("restore()", x.restore(), 1);
        due.is("count(4)", x.count(4), 2);
        due.is("restore() is not to the one before", x.restore(), 1);
        due.is("count(4)", x.count(4), 2);
    }

    private static void theYearIsTold() {
        BestBeast x = new BestBeast();
        due.is("image() in the first YEAR", x.image(), 0);
        due.is("restore() in the first YEAR", x.restore(), 0);
        Make.years(x, 100);
        due.is("image() in YEAR 100", x.image(), 100);
        Make.years(x, 100);
        due.is("restore() in YEAR 200", x.restore(), 100);
        due.is("year() goes on from the image", x.year(), 101);
    }

    private static void itGoesOnFromTheImageAgainAndAgain() {
        BestBeast x = Make.withHolders("102;0", 1, 1);
        Make.beasts(x, 0, 10, 20);
        x.image();
        long before = x.digest();
        for (int often = 1; often <= 20; often++) {
            x.give(0, 1);
            x.heir(0, 1);
            x.roll(1, 1);
            x.year();
            due.is("die(0), time " + often, x.die(0), 20);
            due.is("restore(), time " + often, x.restore(), 0);
            due.is("digest(), time " + often, x.digest(), before);
        }
        due.is("restore() without a change", x.restore(), 0);
        due.is("digest() without a change", x.digest(), before);
    }

    /** That a change is seen, and is gone by restore(). */
    private static void isKept(String what, Consumer<BestBeast> change) {
        BestBeast x = Make.withHolders("102;3", 4, 5, 6);
        Make.beasts(x, 0, 10, 20, 30);
        x.heir(0, 1);
        x.year();
        x.give(0, 1);
        x.roll(1, 1);
        List<String> before = Look.at(x);
        x.image();
        change.accept(x);
        due.holds(what + ": a change is seen", !Look.difference(Look.at(x), before).isEmpty());
        x.restore();
        String changed = Look.difference(Look.at(x), before);
        due.holds(what + " is kept: " + changed, changed.isEmpty());
    }

    private static void eachThingThatIsKept() {
        isKept("how many HOLDERS there are", x -> x.holder(0, 0));
        isKept("how many BEASTS there are", x -> x.beast(0, 40));
        isKept("who LIVES", x -> x.die(2));
        isKept("an HEIR", x -> x.heir(0, 2));
        isKept("that one has no HEIR", x -> x.heir(2, 0));
        isKept("that he has one", x -> x.heir(0, Make.NONE));
        isKept("whose a BEAST is", x -> x.give(2, 1));
        isKept("who gave it when", x -> x.give(0, 2));
        isKept("the YEAR", BestBeast::year);
        isKept("what was taken", x -> x.die(0));
        isKept("what is told in the ROLLS", x -> x.roll(1, 0));
        isKept("that nothing is told", x -> x.roll(0, 0));
        isKept("what is told of what is gone", x -> {
            x.die(0);
            x.roll(2, 1);
        });
        BestBeast x = Make.underLaw("213;4");
        x.image();
        Make.write(x, "335;9");
        x.law();
        due.is("count(0) by the law that was read since", x.count(0), 3);
        x.restore();
        int[] law = {2, 1, 3, 4};
        for (int what = 0; what < law.length; what++) {
            due.is("THE LAW is kept: count(" + what + ")", x.count(what), law[what]);
        }
    }

    private static void thePageIsNotKept() {
        BestBeast x = new BestBeast();
        Make.write(x, "12");
        x.image();
        Make.write(x, "335;");
        x.restore();
        due.is("count(10) behind restore()", x.count(10), 4);
        due.is("fault() behind restore()", x.fault(), 4);
        x.letter('9');
        due.is("law() behind restore()", x.law(), 1);
        Make.write(x, "12345678");
        x.image();
        x.blank();
        x.restore();
        due.is("an empty page stays empty", x.count(10), 0);
    }

    private static void howOftenALawWasReadIsNotKept() {
        BestBeast x = Make.underLaw("111;0");
        x.image();
        Make.write(x, "335;9");
        due.is("law()", x.law(), 2);
        x.restore();
        due.is("count(11) behind restore()", x.count(11), 2);
        Make.write(x, "335;9");
        due.is("law() behind restore()", x.law(), 3);
    }

    private static void holdersThatComeSinceAreGone() {
        BestBeast x = Make.withHolders("111;0", 1);
        x.beast(0, 5);
        x.image();
        x.holder(Make.HOLDER, 2);
        x.heir(0, 1);
        x.give(0, 1);
        x.restore();
        due.is("count(4)", x.count(4), 1);
        due.is("about(1, 0) of one who came since", x.about(1, 0), Make.UNKNOWN);
        due.is("die(1) of one who came since", x.die(1), Make.UNKNOWN);
        due.is("heir(0, 1), who came since", x.heir(0, 1), Make.UNKNOWN);
        due.is("about(0, 3)", x.about(0, 3), Make.NONE);
        due.is("give(0, 1), who came since", x.give(0, 1), Make.UNKNOWN);
        due.is("beastOf(0, 1)", x.beastOf(0, 1), 0);
        due.is("beastOf(0, 2)", x.beastOf(0, 2), Make.NONE);
        due.is("whose(0, 0)", x.whose(0, 0), 1);
    }

    private static void beastsThatComeSinceAreGone() {
        BestBeast x = Make.withHolders("111;0", 1, 1);
        x.beast(0, 5);
        x.image();
        x.beast(0, 50);
        x.restore();
        due.is("count(6)", x.count(6), 1);
        due.is("beastOf(1, 0) of what came since", x.beastOf(1, 0), Make.UNKNOWN);
        due.is("give(1, 1) of what came since", x.give(1, 1), Make.UNKNOWN);
        due.is("roll(1, 1) of what came since", x.roll(1, 1), Make.UNKNOWN);
        due.is("about(0, 4)", x.about(0, 4), 1);
        due.is("about(0, 8)", x.about(0, 8), 5);
        due.is("die(0)", x.die(0), 5);
    }

    private static void whoComesThenIsANewOne() {
        BestBeast x = Make.withHolders("115;0", 1);
        x.image();
        x.holder(Make.WIDOW, 5);
        x.heir(1, 0);
        Make.beasts(x, 0, 50, 60);
        x.give(0, 1);
        x.roll(0, 1);
        x.year();
        x.die(1);
        x.restore();
        due.is("holder() behind restore()", x.holder(Make.FREE, 0), 1);
        int[] abouts = {Make.FREE, 0, 1, Make.NONE, 0, 0, 0, 1, 0};
        for (int what = 0; what < abouts.length; what++) {
            due.is("about(1, " + what + ")", x.about(1, what), abouts[what]);
        }
        due.is("beast() behind restore()", x.beast(1, 7), 0);
        int[] beasts = {7, 1, Make.NONE, Make.NONE, Make.NONE};
        for (int what = 0; what < beasts.length; what++) {
            due.is("beastOf(0, " + what + ")", x.beastOf(0, what), beasts[what]);
        }
    }

    private static void whatIsRefusedKeepsNoImage() {
        BestBeast x = Make.withHolders("111;0", 1);
        x.letter(0);
        x.law();
        x.holder(5, 0);
        x.beast(0, 100);
        x.die(1);
        x.manors(0, 0, 0);
        x.restore();
        Make.refused(due, x, "restore() behind refused calls", x::restore, Make.STATE);
    }
}
