/** Promises 15 to 17: safe, giving, mean. */
public final class WouldBeTest {
    private static final Due due = new Due("WouldBeTest");

    public static void main(String[] args) {
        safes();
        givings();
        giftsMadeBefore();
        means();
        refusals();
        due.end();
    }

    private static void isSafe(BestBeast x, String of, int holder, int few, int which) {
        due.is("safe(" + holder + ", 0) of " + of, x.safe(holder, 0), few);
        due.is("safe(" + holder + ", 1) of " + of, x.safe(holder, 1), which);
    }

    private static void safes() {
        BestBeast x = Make.withHolders("111;9", 3, 3);
        isSafe(x, "one without beasts", 0, 0, 0);
        Make.beasts(x, 0, 30, 8, 9, 20);
        isSafe(x, "four beasts, LEAST 9", 0, 3, 0b1101);
        Make.beasts(x, 1, 8, 8);
        isSafe(x, "beasts below LEAST alone", 1, 0, 0);
        x.give(3, 1);
        isSafe(x, "a gift that is void", 0, Make.NONE, Make.NONE);
        isSafe(x, "who was given one", 1, 1, 0b1000);
        x.year();
        isSafe(x, "a gift of the last year", 0, 2, 0b0101);
        Make.write(x, "001;0");
        x.law();
        isSafe(x, "nothing to take", 0, 0, 0);
        BestBeast alone = Make.withHolders("100;0", 3);
        Make.beasts(alone, 0, 5, 7);
        isSafe(alone, "one alone", 0, 2, 0b11);
        BestBeast knight = Make.underLaw("321;0");
        knight.holder(Make.KNIGHT, 3);
        Make.beasts(knight, 0, 5);
        isSafe(knight, "a knight", 0, 0, 0);
    }

    private static void isGiving(BestBeast x, String of, int holder, int years, int... wants) {
        String told = "(" + holder + ", " + years + ") of " + of;
        due.is("giving" + told, x.giving(holder, years), wants[0]);
        due.is("mean" + told + ", above", x.mean(holder, years, 0), wants[1]);
        due.is("mean" + told + ", below", x.mean(holder, years, 1), wants[2]);
    }

    private static void givings() {
        BestBeast x = Make.withHolders("101;0", 5, 5);
        isGiving(x, "one without beasts", 0, 4, 0, 0, 1);
        Make.beasts(x, 0, 30, 20);
        isGiving(x, "a gift void in the one year", 0, 1, 0, 15, 1);
        isGiving(x, "a gift void in the first of two years", 0, 2, 0b11, 15, 1);
        isGiving(x, "a gift void in the first of four years", 0, 4, 0b11, 15, 1);
        Make.write(x, "102;0");
        x.law();
        isGiving(x, "a gift void in both years", 0, 2, 0, 45, 2);
        isGiving(x, "a gift void in two of three years", 0, 3, 0b11, 45, 2);
        Make.write(x, "100;0");
        x.law();
        isGiving(x, "a gift never void", 0, 1, 0b11, 0, 1);
        Make.write(x, "101;9");
        x.law();
        Make.beasts(x, 1, 8, 40, 7);
        isGiving(x, "beasts below LEAST, which are kept", 1, 2, 0b01000, 20, 1);
        BestBeast alone = Make.withHolders("100;0", 5);
        Make.beasts(alone, 0, 5, 7);
        isGiving(alone, "one alone", 0, 1, 0b11, 0, 1);
    }

    private static void giftsMadeBefore() {
        BestBeast x = Make.withHolders("102;0", 5, 5);
        Make.beasts(x, 0, 50, 10);
        x.give(0, 1);
        x.year();
        isGiving(x, "a gift of the last year, two years", 0, 2, 0, 55, 2);
        isGiving(x, "a gift of the last year, three years", 0, 3, 0b10, 55, 2);
        Make.write(x, "105;0");
        x.law();
        isGiving(x, "a void gift that hides the rest", 0, 4, 0, 375, 8);
        isGiving(x, "who was given the best", 1, 1, 0, 25, 1);
        Make.write(x, "100;0");
        x.law();
        isGiving(x, "who was given the best, no gift void", 1, 1, 0b01, 0, 1);
    }

    private static void means() {
        BestBeast x = Make.withHolders("105;0", 9, 0, 2, 3);
        Make.beasts(x, 0, 99);
        Make.beasts(x, 1, 98);
        Make.beasts(x, 2, 25);
        Make.beasts(x, 3, 7);
        long before = x.digest();
        isGiving(x, "DEATH 9, one year", 0, 1, 0, 891, 10);
        isGiving(x, "DEATH 9, four years", 0, 4, 0, 989901, 10000);
        isGiving(x, "DEATH 0", 1, 4, 0, 0, 1);
        isGiving(x, "DEATH 2, one year", 2, 1, 0, 5, 1);
        isGiving(x, "DEATH 2, two years", 2, 2, 0, 9, 1);
        isGiving(x, "DEATH 2, three years", 2, 3, 0, 61, 5);
        isGiving(x, "DEATH 3, three years", 3, 3, 0, 4599, 1000);
        due.is("digest() behind giving() and mean()", x.digest(), before);
        due.is("beastOf(0, 1) behind giving()", x.beastOf(0, 1), 0);
    }

    private static void refusals() {
        BestBeast x = Make.withHolders("111;0", 5, 5);
        Make.beasts(x, 0, 5);
        x.die(1);
        int[] far = {Integer.MIN_VALUE, -1, 2, 4, Integer.MAX_VALUE};
        for (int wrong : far) {
            Make.refused(due, x, "safe(" + wrong + ", 2)", () -> x.safe(wrong, 2), Make.UNKNOWN);
            Make.refused(due, x, "giving(" + wrong + ", 0)", () -> x.giving(wrong, 0), Make.UNKNOWN);
            Make.refused(due, x, "mean(" + wrong + ", 0, 2)", () -> x.mean(wrong, 0, 2), Make.UNKNOWN);
            Make.refused(due, x, "safe(0, " + wrong + ")", () -> x.safe(0, wrong), Make.OUTSIDE);
            Make.refused(due, x, "mean(0, 1, " + wrong + ")", () -> x.mean(0, 1, wrong), Make.OUTSIDE);
            Make.refused(due, x, "safe(1, " + wrong + ")", () -> x.safe(1, wrong), Make.OUTSIDE);
        }
        for (int wrong : new int[] {Integer.MIN_VALUE, -1, 0, 5, Integer.MAX_VALUE}) {
            Make.refused(due, x, "giving(0, " + wrong + ")", () -> x.giving(0, wrong), Make.OUTSIDE);
            Make.refused(due, x, "mean(0, " + wrong + ", 0)", () -> x.mean(0, wrong, 0), Make.OUTSIDE);
            Make.refused(due, x, "giving(1, " + wrong + ")", () -> x.giving(1, wrong), Make.OUTSIDE);
            Make.refused(due, x, "mean(1, " + wrong + ", 0)", () -> x.mean(1, wrong, 0), Make.OUTSIDE);
        }
        Make.refused(due, x, "safe(1, 0) of a dead one", () -> x.safe(1, 0), Make.STATE);
        Make.refused(due, x, "giving(1, 4) of a dead one", () -> x.giving(1, 4), Make.STATE);
        Make.refused(due, x, "mean(1, 4, 1) of a dead one", () -> x.mean(1, 4, 1), Make.STATE);
    }
}
