/** Promises 18 to 20: roll, whose, manors. */
public final class RollsTest {
    private static final Due due = new Due("RollsTest");

    public static void main(String[] args) {
        rolls();
        whose();
        whoseByGifts();
        whoseOfTheGone();
        manors();
        manorsChangeNothing();
        due.end();
    }

    private static void rolls() {
        BestBeast x = Make.withHolders("111;0", 1);
        Make.beasts(x, 0, 10, 20);
        due.is("roll(0, 1)", x.roll(0, 1), Make.NONE);
        due.is("beastOf(0, 4)", x.beastOf(0, 4), 1);
        due.is("beastOf(1, 4)", x.beastOf(1, 4), Make.NONE);
        due.is("roll(0, 0)", x.roll(0, 0), 1);
        due.is("roll(0, NONE)", x.roll(0, Make.NONE), 0);
        due.is("beastOf(0, 4)", x.beastOf(0, 4), Make.NONE);
        x.die(0);
        due.is("roll(1, 1) of one gone", x.roll(1, 1), Make.NONE);
        for (int wrong : new int[] {-2, 2, Integer.MIN_VALUE, Integer.MAX_VALUE}) {
            Make.refused(due, x, "roll(1, " + wrong + ")", () -> x.roll(1, wrong), Make.OUTSIDE);
            Make.refused(due, x, "roll(" + wrong + ", " + wrong + ")", () -> x.roll(wrong, wrong), Make.UNKNOWN);
        }
        Make.refused(due, x, "roll(-1, 1)", () -> x.roll(-1, 1), Make.UNKNOWN);
    }

    private static void whose() {
        BestBeast x = Make.withHolders("101;0", 1, 1, 1);
        Make.beasts(x, 0, 30, 20);
        Make.beasts(x, 1, 25);
        due.is("whose(0, 0), nothing told", x.whose(0, 0), 0b111);
        x.roll(0, 1);
        due.is("whose(0, 0), it was taken", x.whose(0, 0), 0b001);
        due.is("whose(0, 1), it was taken", x.whose(0, 1), 0b010);
        due.is("whose(2, 0), 0 was taken", x.whose(2, 0), 0b111);
        due.is("whose(2, 1), 0 was taken", x.whose(2, 1), 0);
        x.roll(0, Make.NONE);
        x.roll(2, 1);
        due.is("whose(0, 1), 2 was taken", x.whose(0, 1), 0b101);
        x.roll(2, 0);
        due.is("whose(0, 1), 2 was not taken", x.whose(0, 1), 0b010);
        due.is("whose(2, 1), it was not taken", x.whose(2, 1), 0b101);
        due.is("whose(2, 0), it was not taken", x.whose(2, 0), 0b111);
        x.die(2);
        due.is("whose(2, 0), one is dead", x.whose(2, 0), 0b011);
        Make.refused(due, x, "whose(0, 2) of a dead one", () -> x.whose(0, 2), Make.STATE);
        int[] far = {-1, 3, Integer.MIN_VALUE, Integer.MAX_VALUE};
        for (int wrong : far) {
            Make.refused(due, x, "whose(" + wrong + ", 2)", () -> x.whose(wrong, 2), Make.UNKNOWN);
            Make.refused(due, x, "whose(0, " + wrong + ")", () -> x.whose(0, wrong), Make.UNKNOWN);
        }
    }

    private static void whoseByGifts() {
        BestBeast x = Make.withHolders("105;0", 1, 1);
        Make.beasts(x, 0, 30, 99);
        x.give(0, 1);
        x.roll(0, 1);
        due.is("whose(0, 0), behind a better one", x.whose(0, 0), 0);
        due.is("whose(0, 1), a gift to him", x.whose(0, 1), 0b10);
        x.give(1, 1);
        due.is("whose(0, 0), behind a void gift", x.whose(0, 0), 0);
        Make.years(x, 5);
        due.is("whose(0, 0), the gift no more void", x.whose(0, 0), 0b01);
        BestBeast y = Make.withHolders("105;0", 1, 1);
        Make.beasts(y, 0, 30);
        y.give(0, 1);
        y.roll(0, 1);
        due.is("whose(0, 0), as if nobody had given it", y.whose(0, 0), 0b01);
        due.is("beastOf(0, 2) behind whose()", y.beastOf(0, 2), 0);
        due.is("beastOf(0, 1) behind whose()", y.beastOf(0, 1), 1);
    }

    private static void whoseOfTheGone() {
        BestBeast x = Make.withHolders("101;0", 1, 1, 1);
        Make.beasts(x, 0, 30);
        Make.beasts(x, 1, 20, 10);
        x.die(0);
        due.is("whose(0, 1) of one gone, nothing told", x.whose(0, 1), 0b110);
        x.roll(0, 1);
        due.is("whose(0, 1) of one gone", x.whose(0, 1), 0b010);
        due.is("whose(1, 1), one gone was taken", x.whose(1, 1), 0);
        x.roll(0, 0);
        due.is("whose(0, 1) of one gone, not taken", x.whose(0, 1), 0b100);
        due.is("whose(1, 1), one gone was not taken", x.whose(1, 1), 0b110);
        x.roll(2, 1);
        due.is("whose(1, 1), the less one was taken", x.whose(1, 1), 0b100);
        Make.write(x, "111;0");
        x.law();
        due.is("whose(1, 1), the church takes one, too", x.whose(1, 1), 0b110);
        Make.write(x, "331;0");
        x.law();
        due.is("whose(0, 2) by the death of one without beasts", x.whose(0, 2), 0);
    }

    private static void manors() {
        BestBeast x = Make.withHolders("111;0", 0);
        due.is("manors(1, 0, 2), one draw", x.manors(1, 0, 2), 12345);
        due.is("manors(2, 0, 2), two draws", x.manors(2, 0, 2), 1406932606);
        due.is("manors(3, 0, 2), three draws", x.manors(3, 0, 2), 654583775);
        due.is("manors(60, 0, 1), DEATH 0", x.manors(60, 0, 1), 1);
        Make.beasts(x, 0, 50);
        due.is("manors(1, 0, 2), three draws", x.manors(1, 0, 2), 654583775);
        due.is("manors(60, 0, 0), DEATH 0", x.manors(60, 0, 0), 0);
        x.holder(Make.HOLDER, 9);
        // 12345 draws 0 of 10, 1406932606 draws 8, 654583775 draws 0 of 1, 1449466924 draws 1 of 2
        due.is("manors(1, 0, 2), four draws", x.manors(1, 0, 2), 1449466924);
        due.is("manors(1, 0, 1), 8 is below 9", x.manors(1, 0, 1), 1);
        BestBeast y = Make.withHolders("111;0", 0, 8);
        due.is("manors(1, 0, 1), 8 is not below 8", y.manors(1, 0, 1), 2);
        for (int wrong : new int[] {0, 61, -1, Integer.MIN_VALUE, Integer.MAX_VALUE}) {
            Make.refused(due, x, "manors(" + wrong + ", 1, 0)", () -> x.manors(wrong, 1, 0), Make.OUTSIDE);
        }
        for (int wrong : new int[] {-1, Integer.MIN_VALUE}) {
            Make.refused(due, x, "manors(1, " + wrong + ", 0)", () -> x.manors(1, wrong, 0), Make.OUTSIDE);
        }
        for (int wrong : new int[] {-1, 3, Integer.MIN_VALUE, Integer.MAX_VALUE}) {
            Make.refused(due, x, "manors(1, 1, " + wrong + ")", () -> x.manors(1, 1, wrong), Make.OUTSIDE);
        }
        BestBeast empty = new BestBeast();
        Make.refused(due, empty, "manors(1, 1, 0) of nobody", () -> empty.manors(1, 1, 0), Make.STATE);
        Make.refused(due, empty, "manors(0, 1, 0) of nobody", () -> empty.manors(0, 1, 0), Make.OUTSIDE);
    }

    private static void manorsChangeNothing() {
        BestBeast x = Make.withHolders("111;0", 9, 9, 9, 9);
        Make.beasts(x, 0, 50, 60);
        x.die(0);
        Make.beasts(x, 1, 50, 60);
        long before = x.digest();
        for (int seed : new int[] {0, 1, 77, Integer.MAX_VALUE}) {
            for (int what = 0; what <= 2; what++) {
                int first = x.manors(60, seed, what);
                due.is("manors(60, " + seed + ", " + what + ") again", x.manors(60, seed, what), first);
            }
            due.is("manors(60, " + seed + ", 1), all are dead", x.manors(60, seed, 1), 0);
            due.holds("what is taken is that of these years alone", x.manors(60, seed, 0) <= 110);
        }
        due.is("digest() behind manors()", x.digest(), before);
    }
}
