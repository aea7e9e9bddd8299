/** LOSS, SAFE and GIVING, and promises 15 to 17: a test for each sentence that names an edge. */
public final class WouldBeEdgesTest {
    private static final Due due = new Due("WouldBeEdgesTest");
    private static final int LEAST = Integer.MIN_VALUE;
    private static final int GREATEST = Integer.MAX_VALUE;

    public static void main(String[] args) {
        ofSafeWhatIs0Or1();
        ofSafeTheFirstRefusalIsTold();
        safeOfNothingAndOfAll();
        safeIsOfBeastsWorthLeastOrMore();
        safeIsNoneBehindVoidGifts();
        safeWhereNobodyTakes();
        yearsAreOf1To4();
        ofGivingTheFirstRefusalIsTold();
        givingOfNothingAndOfAll();
        whoNeverDiesGivesNothing();
        giftsVoidInAllTheseYearsAreNotMade();
        whatIsBelowLeastIsNotGiven();
        heldAtTheEndOfEachYear();
        behindTheLastYearNotAtAll();
        thePartIs0Or1();
        ofMeanTheFirstRefusalIsTold();
        aMeanOfNothingIsNoneOfOne();
        aMeanIsInLowestTerms();
        theGreatestMean();
        theLeastMean();
        askingChangesNothing();
        due.end();
    }

    private static BestBeast one(String law, int kind, int death, int... worths) {
        BestBeast x = Make.underLaw(law);
        x.holder(kind, death);
        x.holder(Make.HOLDER, 5);
        Make.beasts(x, 0, worths);
        return x;
    }

    private static void isSafe(BestBeast x, String of, int few, int which) {
        due.is("safe(0, 0), " + of, x.safe(0, 0), few);
        due.is("safe(0, 1), " + of, x.safe(0, 1), which);
    }

    private static void isGiving(BestBeast x, String of, int years, int which, int above, int below) {
        due.is("giving(0, " + years + "), " + of, x.giving(0, years), which);
        due.is("mean(0, " + years + ", 0), " + of, x.mean(0, years, 0), above);
        due.is("mean(0, " + years + ", 1), " + of, x.mean(0, years, 1), below);
    }

    private static void ofSafeWhatIs0Or1() {
        BestBeast x = one("111;0", Make.HOLDER, 3, 5, 6);
        isSafe(x, "two beasts", 2, 0b11);
        for (int what : new int[] {LEAST, -1, 2, 3, GREATEST}) {
            Make.refused(due, x, "safe(0, " + what + ")", () -> x.safe(0, what), Make.OUTSIDE);
        }
    }

    private static void ofSafeTheFirstRefusalIsTold() {
        BestBeast x = one("111;0", Make.HOLDER, 3, 5, 6);
        x.die(0);
        for (int what : new int[] {LEAST, -1, 2, GREATEST}) {
            Make.refused(due, x, "safe(2, " + what + ")", () -> x.safe(2, what), Make.UNKNOWN);
            Make.refused(due, x, "safe(-1, " + what + ")", () -> x.safe(-1, what), Make.UNKNOWN);
            Make.refused(due, x, "safe(0, " + what + ") of a dead one", () -> x.safe(0, what), Make.OUTSIDE);
        }
        Make.refused(due, x, "safe(0, 0) of a dead one", () -> x.safe(0, 0), Make.STATE);
        Make.refused(due, x, "safe(0, 1) of a dead one", () -> x.safe(0, 1), Make.STATE);
    }

    private static void safeOfNothingAndOfAll() {
        isSafe(one("331;0", Make.HOLDER, 3), "no beasts", 0, 0);
        isSafe(one("331;0", Make.HOLDER, 3, 1), "one beast", 1, 1);
        isSafe(one("331;0", Make.HOLDER, 3, 1, 2, 3, 4, 5, 6), "six beasts", 6, 0b111111);
        isSafe(one("101;0", Make.HOLDER, 3, 1, 1, 1, 1, 1, 1), "six beasts, one of which is taken", 6, 0b111111);
    }

    private static void safeIsOfBeastsWorthLeastOrMore() {
        isSafe(one("111;9", Make.HOLDER, 3, 8, 9, 10), "LEAST 9", 2, 0b110);
        isSafe(one("111;9", Make.HOLDER, 3, 8, 8), "all below LEAST", 0, 0);
        isSafe(one("111;1", Make.HOLDER, 3, 1, 2), "LEAST 1", 2, 0b11);
        isSafe(one("111;2", Make.HOLDER, 3, 1, 2), "LEAST 2", 1, 0b10);
    }

    private static void safeIsNoneBehindVoidGifts() {
        BestBeast x = one("112;9", Make.HOLDER, 3, 30, 20, 8);
        x.give(0, 1);
        isSafe(x, "a void gift", Make.NONE, Make.NONE);
        x.year();
        isSafe(x, "a gift in its last void year", Make.NONE, Make.NONE);
        x.year();
        isSafe(x, "a gift that is void no more", 1, 0b10);
        x.give(2, 1);
        isSafe(x, "a void gift below LEAST", 1, 0b10);
        x.give(0, 0);
        isSafe(x, "what was given back to him", 2, 0b11);
    }

    private static void safeWhereNobodyTakes() {
        isSafe(one("001;0", Make.HOLDER, 3, 30, 20), "nobody takes", 0, 0);
        isSafe(one("101;0", Make.WIDOW, 3, 30, 20), "a widow, LORD 1", 0, 0);
        isSafe(one("301;0", Make.FREE, 3, 30, 20), "one who is free", 0, 0);
        isSafe(one("321;0", Make.KNIGHT, 3, 30, 20), "a knight, CHURCH 2", 0, 0);
        BestBeast x = one("105;0", Make.HOLDER, 3, 30, 20);
        x.give(0, 1);
        isSafe(x, "a void gift", Make.NONE, Make.NONE);
        Make.write(x, "005;0");
        x.law();
        isSafe(x, "a void gift, but nobody takes", 0, 0);
        isSafe(one("001;0", Make.CLERK, 3, 30, 20), "a clerk, CHURCH 0", 2, 0b11);
    }

    private static void yearsAreOf1To4() {
        BestBeast x = one("101;0", Make.HOLDER, 5, 8);
        isGiving(x, "one year", 1, 0, 4, 1);
        isGiving(x, "two years", 2, 1, 4, 1);
        isGiving(x, "four years", 4, 1, 4, 1);
        for (int years : new int[] {LEAST, -1, 0, 5, 6, GREATEST}) {
            Make.refused(due, x, "giving(0, " + years + ")", () -> x.giving(0, years), Make.OUTSIDE);
            Make.refused(due, x, "mean(0, " + years + ", 0)", () -> x.mean(0, years, 0), Make.OUTSIDE);
        }
    }

    private static void ofGivingTheFirstRefusalIsTold() {
        BestBeast x = one("111;0", Make.HOLDER, 3, 5, 6);
        x.die(0);
        for (int years : new int[] {LEAST, 0, 5, GREATEST}) {
            Make.refused(due, x, "giving(2, " + years + ")", () -> x.giving(2, years), Make.UNKNOWN);
            Make.refused(due, x, "giving(-1, " + years + ")", () -> x.giving(-1, years), Make.UNKNOWN);
            Make.refused(due, x, "giving(0, " + years + ") of a dead one", () -> x.giving(0, years), Make.OUTSIDE);
        }
        for (int years = 1; years <= 4; years++) {
            int fit = years;
            Make.refused(due, x, "giving(0, " + fit + ") of a dead one", () -> x.giving(0, fit), Make.STATE);
        }
    }

    private static void givingOfNothingAndOfAll() {
        isGiving(one("330;0", Make.HOLDER, 5), "no beasts", 1, 0, 0, 1);
        isGiving(one("331;0", Make.HOLDER, 9), "no beasts", 4, 0, 0, 1);
        isGiving(one("330;0", Make.HOLDER, 5, 1), "one beast", 1, 1, 0, 1);
        isGiving(one("330;0", Make.HOLDER, 5, 1, 2, 3, 4, 5, 6), "six beasts", 1, 0b111111, 0, 1);
        isGiving(one("100;0", Make.HOLDER, 1, 6, 6, 6, 6, 6, 6), "six like beasts", 4, 0b111111, 0, 1);
        isGiving(one("321;0", Make.KNIGHT, 9, 50, 60), "a knight, of whom nobody takes", 4, 0, 0, 1);
    }

    private static void whoNeverDiesGivesNothing() {
        for (int years = 1; years <= 4; years++) {
            isGiving(one("330;0", Make.HOLDER, 0, 50, 60), "DEATH 0", years, 0, 0, 1);
        }
    }

    private static void giftsVoidInAllTheseYearsAreNotMade() {
        for (int voidYears = 0; voidYears <= 5; voidYears++) {
            for (int years = 1; years <= 4; years++) {
                BestBeast x = one("10" + voidYears + ";0", Make.HOLDER, 5, 50, 60);
                String of = "VOID " + voidYears;
                due.is("giving(0, " + years + "), " + of, x.giving(0, years), years > voidYears ? 0b11 : 0);
                // 60 is lost by 1/2, 1/4, 1/8, 1/16, in those years alone in which the gift is void
                int lost = 60 * (16 - (16 >> Math.min(years, voidYears)));
                due.is("mean of " + years + ", " + of, 16 * x.mean(0, years, 0), lost * x.mean(0, years, 1));
            }
        }
    }

    private static void whatIsBelowLeastIsNotGiven() {
        isGiving(one("111;9", Make.HOLDER, 5, 8, 9, 10), "LEAST 9", 2, 0b110, 19, 2);
        isGiving(one("111;9", Make.HOLDER, 5, 10, 8), "LEAST 9, the less one behind", 2, 0b01, 5, 1);
        isGiving(one("111;9", Make.HOLDER, 5, 9, 10, 8), "LEAST 9, the least one behind", 2, 0b011, 19, 2);
        isGiving(one("111;9", Make.HOLDER, 5, 8, 8), "all below LEAST", 4, 0, 0, 1);
        isGiving(one("110;1", Make.HOLDER, 5, 1, 2), "LEAST 1", 1, 0b11, 0, 1);
        isGiving(one("110;2", Make.HOLDER, 5, 1, 2), "LEAST 2", 1, 0b10, 0, 1);
    }

    private static void heldAtTheEndOfEachYear() {
        BestBeast x = one("102;0", Make.HOLDER, 5, 40);
        x.give(0, 1);
        isGiving(x, "given this year, VOID 2", 1, 0, 20, 1);
        isGiving(x, "given this year, VOID 2", 2, 0, 30, 1);
        isGiving(x, "given this year, VOID 2", 3, 0, 30, 1);
        x.year();
        isGiving(x, "given last year, VOID 2", 1, 0, 20, 1);
        isGiving(x, "given last year, VOID 2", 2, 0, 20, 1);
        x.year();
        isGiving(x, "given two years ago, VOID 2", 4, 0, 0, 1);
    }

    private static void behindTheLastYearNotAtAll() {
        BestBeast x = one("105;0", Make.HOLDER, 5, 16);
        isGiving(x, "one year", 1, 0, 8, 1);
        isGiving(x, "two years", 2, 0, 12, 1);
        isGiving(x, "three years", 3, 0, 14, 1);
        isGiving(x, "four years", 4, 0, 15, 1);
    }

    private static void thePartIs0Or1() {
        BestBeast x = one("105;0", Make.HOLDER, 1, 3);
        due.is("mean(0, 1, 0)", x.mean(0, 1, 0), 3);
        due.is("mean(0, 1, 1)", x.mean(0, 1, 1), 10);
        for (int part : new int[] {LEAST, -1, 2, 3, GREATEST}) {
            for (int years = 1; years <= 4; years += 3) {
                int fit = years;
                Make.refused(due, x, "mean(0, " + fit + ", " + part + ")", () -> x.mean(0, fit, part), Make.OUTSIDE);
            }
        }
    }

    private static void ofMeanTheFirstRefusalIsTold() {
        BestBeast x = one("111;0", Make.HOLDER, 3, 5, 6);
        x.die(0);
        int[][] outside = {{0, 0}, {5, 1}, {1, -1}, {4, 2}, {LEAST, GREATEST}, {GREATEST, LEAST}};
        for (int[] o : outside) {
            String of = ", " + o[0] + ", " + o[1] + ")";
            Make.refused(due, x, "mean(2" + of, () -> x.mean(2, o[0], o[1]), Make.UNKNOWN);
            Make.refused(due, x, "mean(-1" + of, () -> x.mean(-1, o[0], o[1]), Make.UNKNOWN);
            Make.refused(due, x, "mean(1" + of, () -> x.mean(1, o[0], o[1]), Make.OUTSIDE);
            Make.refused(due, x, "mean(0" + of + " of a dead one", () -> x.mean(0, o[0], o[1]), Make.OUTSIDE);
        }
        Make.refused(due, x, "mean(0, 1, 0) of a dead one", () -> x.mean(0, 1, 0), Make.STATE);
        Make.refused(due, x, "mean(0, 4, 1) of a dead one", () -> x.mean(0, 4, 1), Make.STATE);
    }

    private static void aMeanOfNothingIsNoneOfOne() {
        isGiving(one("111;0", Make.HOLDER, 9), "no beasts", 1, 0, 0, 1);
        isGiving(one("111;0", Make.HOLDER, 0, 99), "DEATH 0", 4, 0, 0, 1);
        isGiving(one("110;0", Make.HOLDER, 9, 99), "VOID 0", 4, 1, 0, 1);
        isGiving(one("001;0", Make.HOLDER, 9, 99), "nobody takes", 4, 0, 0, 1);
    }

    private static void aMeanIsInLowestTerms() {
        isGiving(one("105;0", Make.HOLDER, 5, 2), "1/2 of 2", 1, 0, 1, 1);
        isGiving(one("105;0", Make.HOLDER, 5, 1), "1/2 of 1", 1, 0, 1, 2);
        isGiving(one("105;0", Make.HOLDER, 5, 1), "3/4 of 1", 2, 0, 3, 4);
        isGiving(one("105;0", Make.HOLDER, 5, 1), "15/16 of 1", 4, 0, 15, 16);
        isGiving(one("105;0", Make.HOLDER, 2, 5), "1/5 of 5", 1, 0, 1, 1);
        isGiving(one("105;0", Make.HOLDER, 4, 15), "2/5 of 15", 1, 0, 6, 1);
        isGiving(one("105;0", Make.HOLDER, 4, 15), "16/25 of 15", 2, 0, 48, 5);
        isGiving(one("105;0", Make.HOLDER, 8, 25), "624/625 of 25", 4, 0, 624, 25);
    }

    private static void theGreatestMean() {
        BestBeast x = one("335;9", Make.HOLDER, 9, 99, 99, 99, 99, 99, 99);
        isGiving(x, "9/10 of 594", 1, 0, 2673, 5);
        isGiving(x, "9999/10000 of 594", 4, 0, 2969703, 5000);
    }

    private static void theLeastMean() {
        isGiving(one("105;0", Make.HOLDER, 1, 1), "1/10 of 1", 1, 0, 1, 10);
        isGiving(one("105;0", Make.HOLDER, 1, 1), "3439/10000 of 1", 4, 0, 3439, 10000);
        isGiving(one("105;0", Make.HOLDER, 9, 1), "9999/10000 of 1", 4, 0, 9999, 10000);
    }

    private static void askingChangesNothing() {
        BestBeast x = one("102;3", Make.HOLDER, 6, 40, 2, 7);
        x.give(0, 1);
        long before = x.digest();
        for (int years = 1; years <= 4; years++) {
            x.giving(0, years);
            x.mean(0, years, 0);
            x.mean(0, years, 1);
            x.safe(0, years % 2);
        }
        due.is("digest() behind safe(), giving() and mean()", x.digest(), before);
        due.is("BEASTS behind safe(), giving() and mean()", x.about(0, 4), 0b110);
    }
}
