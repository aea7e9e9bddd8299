/** Promises 10 to 14: beast, beastOf, give, die, year. */
public final class BeastsTest {
    private static final Due due = new Due("BeastsTest");

    public static void main(String[] args) {
        beasts();
        gifts();
        deaths();
        heirsOfTheDead();
        years();
        due.end();
    }

    private static void isBeast(BestBeast x, int beast, int... wants) {
        for (int what = 0; what < wants.length; what++) {
            due.is("beastOf(" + beast + ", " + what + ")", x.beastOf(beast, what), wants[what]);
        }
    }

    private static void beasts() {
        BestBeast x = Make.withHolders("111;0", 1, 1, 1);
        for (int wrong : new int[] {0, 100, -1, Integer.MIN_VALUE, Integer.MAX_VALUE}) {
            Make.refused(due, x, "beast(0, " + wrong + ")", () -> x.beast(0, wrong), Make.OUTSIDE);
            Make.refused(due, x, "beast(3, " + wrong + ")", () -> x.beast(3, wrong), Make.UNKNOWN);
        }
        Make.refused(due, x, "beast(-1, 5)", () -> x.beast(-1, 5), Make.UNKNOWN);
        x.die(1);
        Make.refused(due, x, "beast(1, 5) of a dead one", () -> x.beast(1, 5), Make.STATE);
        Make.refused(due, x, "beast(1, 0) of a dead one", () -> x.beast(1, 0), Make.OUTSIDE);
        for (int number = 0; number < 6; number++) {
            due.is("beast() " + number, x.beast(0, number == 0 ? 1 : 99), number);
            due.is("count(6)", x.count(6), number + 1);
            due.is("count(7)", x.count(7), number + 1);
        }
        Make.refused(due, x, "a seventh beast", () -> x.beast(0, 5), Make.FULL);
        Make.refused(due, x, "a seventh beast of a dead one", () -> x.beast(1, 5), Make.STATE);
        Make.refused(due, x, "a seventh beast of no worth", () -> x.beast(0, 0), Make.OUTSIDE);
        isBeast(x, 0, 1, 0, Make.NONE, Make.NONE, Make.NONE);
        for (int wrong : new int[] {-1, 5, Integer.MIN_VALUE, Integer.MAX_VALUE}) {
            Make.refused(due, x, "beastOf(0, " + wrong + ")", () -> x.beastOf(0, wrong), Make.OUTSIDE);
        }
        for (int wrong : new int[] {-1, 6, Integer.MIN_VALUE, Integer.MAX_VALUE}) {
            Make.refused(due, x, "beastOf(" + wrong + ", 5)", () -> x.beastOf(wrong, 5), Make.UNKNOWN);
        }
        x.die(0);
        due.is("count(7), all gone", x.count(7), 0);
        Make.refused(due, x, "a seventh beast, all gone", () -> x.beast(2, 5), Make.FULL);
    }

    private static void gifts() {
        BestBeast x = Make.withHolders("111;0", 1, 1, 1);
        Make.beasts(x, 0, 10, 20);
        x.roll(0, 1);
        due.is("give(0, 1)", x.give(0, 1), 0);
        isBeast(x, 0, 10, 1, 0, 0, 1);
        Make.years(x, 3);
        due.is("give(0, 2)", x.give(0, 2), 1);
        isBeast(x, 0, 10, 2, 1, 3, 1);
        due.is("give(0, 0)", x.give(0, 0), 2);
        isBeast(x, 0, 10, 0, 2, 3, 1);
        Make.refused(due, x, "give(0, 0), his already", () -> x.give(0, 0), Make.STATE);
        Make.refused(due, x, "give(2, 0)", () -> x.give(2, 0), Make.UNKNOWN);
        Make.refused(due, x, "give(-1, 0)", () -> x.give(-1, 0), Make.UNKNOWN);
        Make.refused(due, x, "give(0, 3)", () -> x.give(0, 3), Make.UNKNOWN);
        Make.refused(due, x, "give(0, -1)", () -> x.give(0, -1), Make.UNKNOWN);
        x.die(2);
        Make.refused(due, x, "give(1, 2), a dead one", () -> x.give(1, 2), Make.STATE);
        x.die(0);
        Make.refused(due, x, "give(1, 1), gone", () -> x.give(1, 1), Make.STATE);
    }

    private static void deaths() {
        BestBeast x = Make.withHolders("111;0", 1, 1, 1);
        Make.refused(due, x, "die(3)", () -> x.die(3), Make.UNKNOWN);
        Make.refused(due, x, "die(-1)", () -> x.die(-1), Make.UNKNOWN);
        Make.beasts(x, 0, 20, 30, 20, 20);
        x.heir(0, 1);
        x.give(3, 2);
        due.is("die(0)", x.die(0), 50);
        isBeast(x, 0, 20, Make.NONE, Make.NONE, Make.NONE, Make.NONE);
        isBeast(x, 1, 30, Make.NONE, Make.NONE, Make.NONE, Make.NONE);
        isBeast(x, 2, 20, 1, Make.NONE, Make.NONE, Make.NONE);
        isBeast(x, 3, 20, 2, 0, 0, Make.NONE);
        due.is("count(9)", x.count(9), 50);
        due.is("count(5)", x.count(5), 2);
        due.is("count(7)", x.count(7), 2);
        Make.refused(due, x, "die(0) again", () -> x.die(0), Make.STATE);
        due.is("die(1)", x.die(1), 20);
        due.is("count(9)", x.count(9), 70);
        due.is("die(2)", x.die(2), 20);
        due.is("count(9)", x.count(9), 90);
        due.is("count(5)", x.count(5), 0);

        BestBeast y = Make.withHolders("111;9", 1, 1);
        Make.beasts(y, 0, 8, 9, 40);
        y.heir(0, 1);
        y.give(2, 1);
        due.is("a death with a void gift, LEAST 9", y.die(0), 49);
        isBeast(y, 0, 8, 1, Make.NONE, Make.NONE, Make.NONE);
        isBeast(y, 2, 40, Make.NONE, Make.NONE, Make.NONE, Make.NONE);
    }

    private static void heirsOfTheDead() {
        BestBeast x = Make.withHolders("001;0", 1, 1, 1);
        Make.beasts(x, 2, 5, 6);
        Make.beasts(x, 0, 7);
        x.give(0, 0);
        x.heir(0, 1);
        due.is("die(0), none taken", x.die(0), 0);
        isBeast(x, 0, 5, 1, Make.NONE, Make.NONE, Make.NONE);
        isBeast(x, 2, 7, 1, Make.NONE, Make.NONE, Make.NONE);
        isBeast(x, 1, 6, 2, Make.NONE, Make.NONE, Make.NONE);
        x.heir(1, 0);
        due.is("die(1), whose heir is dead", x.die(1), 0);
        isBeast(x, 0, 5, Make.NONE, Make.NONE, Make.NONE, Make.NONE);
        due.is("die(2), who has no heir", x.die(2), 0);
        due.is("count(7)", x.count(7), 0);
        due.is("count(9)", x.count(9), 0);
    }

    private static void years() {
        BestBeast x = Make.withHolders("111;0", 1);
        for (int y = 1; y <= 300; y++) {
            due.is("year()", x.year(), y);
        }
        due.is("count(8)", x.count(8), 300);
    }
}
