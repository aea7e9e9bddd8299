import java.math.BigInteger;

/** ROLLS, WHOSE, MANORS and DRAWS, and promises 18 to 20: a test for each sentence that names an edge. */
public final class RollEdgesTest {
    private static final Due due = new Due("RollEdgesTest");
    private static final int LEAST = Integer.MIN_VALUE;
    private static final int GREATEST = Integer.MAX_VALUE;

    public static void main(String[] args) {
        whatIsToldIsTakenNotTakenOrNothing();
        ofARollUnknownIsToldBeforeOutside();
        rollsOfTheFirstAndTheLastBeast();
        ofWhoseUnknownIsToldBeforeState();
        ofNoneAndOfAllWhoLive();
        theDeadAreLeftOut();
        whatIsGoneMayBeAnyones();
        nobodyHavingGivenIt();
        takenIsOfLeastOrMore();
        takenAreAsManyAsTheyMay();
        yearsAreOf1To60();
        aSeedIs0AtLeast();
        whatIsOf0To2();
        ofManorsOutsideIsToldBeforeState();
        theRestBy2ToThe31();
        eachWhoLivesDrawsOnce();
        theDrawIsBelowHisDeath();
        withoutBeastsNothingIsDrawnOfThem();
        theBeastIsDrawnBeforeTheHolder();
        whereAGiftMayNotBeNoneIsMade();
        theGiftIsOfTheYearInWhichItIsMade();
        theWorthIsOfTheseYearsAlone();
        noneAndAllLiveThen();
        due.end();
    }

    private static void whatIsToldIsTakenNotTakenOrNothing() {
        BestBeast x = Make.withHolders("111;0", 1);
        x.beast(0, 5);
        int[] told = {1, 0, -1, -1, 0, 0, 1, 1, -1};
        int before = Make.NONE;
        for (int taken : told) {
            due.is("roll(0, " + taken + ")", x.roll(0, taken), before);
            due.is("beastOf(0, 4)", x.beastOf(0, 4), taken);
            before = taken;
        }
        for (int taken : new int[] {LEAST, -2, 2, 3, GREATEST}) {
            Make.refused(due, x, "roll(0, " + taken + ")", () -> x.roll(0, taken), Make.OUTSIDE);
        }
    }

    private static void ofARollUnknownIsToldBeforeOutside() {
        BestBeast x = Make.withHolders("111;0", 1);
        Make.refused(due, x, "roll(0, 1), no beasts", () -> x.roll(0, 1), Make.UNKNOWN);
        x.beast(0, 5);
        for (int wrong : new int[] {LEAST, -2, 2, GREATEST}) {
            Make.refused(due, x, "roll(1, " + wrong + ")", () -> x.roll(1, wrong), Make.UNKNOWN);
            Make.refused(due, x, "roll(-1, " + wrong + ")", () -> x.roll(-1, wrong), Make.UNKNOWN);
            Make.refused(due, x, "roll(" + wrong + ", 1)", () -> x.roll(wrong, 1), Make.UNKNOWN);
        }
    }

    private static void rollsOfTheFirstAndTheLastBeast() {
        BestBeast x = Make.withHolders("111;0", 1);
        Make.beasts(x, 0, 1, 2, 3, 4, 5, 6);
        due.is("roll(5, 0)", x.roll(5, 0), Make.NONE);
        due.is("roll(0, 1)", x.roll(0, 1), Make.NONE);
        Make.refused(due, x, "roll(6, 1)", () -> x.roll(6, 1), Make.UNKNOWN);
        int[] told = {1, -1, -1, -1, -1, 0};
        for (int beast = 0; beast < 6; beast++) {
            due.is("beastOf(" + beast + ", 4)", x.beastOf(beast, 4), told[beast]);
        }
        x.die(0);
        due.is("beastOf(0, 4) of what is gone", x.beastOf(0, 4), 1);
        due.is("roll(0, NONE) of what is gone", x.roll(0, Make.NONE), 1);
    }

    private static void ofWhoseUnknownIsToldBeforeState() {
        BestBeast x = Make.withHolders("111;0", 1, 1);
        x.beast(0, 5);
        x.die(1);
        for (int wrong : new int[] {LEAST, -1, 1, 6, GREATEST}) {
            Make.refused(due, x, "whose(" + wrong + ", 1)", () -> x.whose(wrong, 1), Make.UNKNOWN);
        }
        for (int wrong : new int[] {LEAST, -1, 2, 4, GREATEST}) {
            Make.refused(due, x, "whose(0, " + wrong + ")", () -> x.whose(0, wrong), Make.UNKNOWN);
            Make.refused(due, x, "whose(1, " + wrong + ")", () -> x.whose(1, wrong), Make.UNKNOWN);
        }
        Make.refused(due, x, "whose(0, 1) by a dead one", () -> x.whose(0, 1), Make.STATE);
    }

    private static void ofNoneAndOfAllWhoLive() {
        BestBeast x = Make.withHolders("111;0", 1, 1, 1, 1);
        Make.beasts(x, 0, 5, 6, 7, 8, 9, 10);
        for (int beast = 0; beast < 6; beast++) {
            for (int dying = 0; dying < 4; dying++) {
                due.is("whose(" + beast + ", " + dying + "), nothing told", x.whose(beast, dying), 0b1111);
            }
        }
        x.roll(0, 1);
        due.is("whose(0, 0), told, but better ones are there", x.whose(0, 0), 0);
        due.is("whose(0, 3), told", x.whose(0, 3), 0b1000);
        due.is("whose(1, 3), told of another one", x.whose(1, 3), 0);
        x.roll(0, 0);
        due.is("whose(0, 0), not taken", x.whose(0, 0), 0b1111);
        due.is("whose(0, 3), not taken", x.whose(0, 3), 0b0111);
    }

    private static void theDeadAreLeftOut() {
        BestBeast x = Make.withHolders("111;0", 1, 1, 1, 1);
        x.beast(3, 5);
        int lives = 0b1111;
        for (int dead = 0; dead < 3; dead++) {
            x.die(dead);
            lives &= ~(1 << dead);
            due.is("whose(0, 3), " + dead + " is dead", x.whose(0, 3), lives);
        }
        x.roll(0, 0);
        due.is("whose(0, 3), not taken, but there is no other one", x.whose(0, 3), 0);
    }

    private static void whatIsGoneMayBeAnyones() {
        BestBeast x = Make.withHolders("101;0", 1, 1, 1);
        Make.beasts(x, 0, 50);
        Make.beasts(x, 1, 20);
        x.die(0);
        due.is("whose(0, 1) of what is gone, nothing told", x.whose(0, 1), 0b110);
        x.roll(0, 1);
        due.is("whose(0, 1) of what is gone, taken", x.whose(0, 1), 0b010);
        due.is("whose(0, 2) of what is gone, taken", x.whose(0, 2), 0b100);
        x.roll(0, 0);
        due.is("whose(0, 1) of what is gone, not taken", x.whose(0, 1), 0b100);
        due.is("whose it is behind whose()", x.beastOf(0, 1), Make.NONE);
        due.is("count(7) behind whose()", x.count(7), 1);
    }

    private static void nobodyHavingGivenIt() {
        BestBeast x = Make.withHolders("105;0", 1, 1);
        Make.beasts(x, 0, 30);
        x.give(0, 1);
        x.roll(0, 1);
        due.is("whose(0, 0), as if he had not given it", x.whose(0, 0), 0b01);
        due.is("whose(0, 1), as if nobody had given it", x.whose(0, 1), 0b10);
        due.is("who gave it, behind whose()", x.beastOf(0, 2), 0);
        due.is("when, behind whose()", x.beastOf(0, 3), 0);
        // all else as it is: the void gift of another beast is held of him who gave it
        Make.beasts(x, 0, 20);
        x.roll(0, Make.NONE);
        x.roll(1, 1);
        due.is("whose(1, 0), behind a better one that is void", x.whose(1, 0), 0);
        Make.years(x, 4);
        due.is("whose(1, 0), in the last void year", x.whose(1, 0), 0);
        x.year();
        due.is("whose(1, 0), the gift void no more", x.whose(1, 0), 0b01);
    }

    private static void takenIsOfLeastOrMore() {
        BestBeast x = Make.withHolders("111;9", 1, 1);
        Make.beasts(x, 1, 8, 9);
        x.roll(1, 1);
        due.is("whose() of one worth LEAST", x.whose(1, 0), 0b01);
        x.roll(1, Make.NONE);
        x.roll(0, 1);
        due.is("whose() of one below LEAST, taken", x.whose(0, 0), 0);
        x.roll(0, 0);
        due.is("whose() of one below LEAST, not taken", x.whose(0, 0), 0b11);
    }

    private static void takenAreAsManyAsTheyMay() {
        int[][] byKind = {{Make.HOLDER, 2}, {Make.WIDOW, 1}, {Make.CLERK, 3}, {Make.FREE, 1}, {Make.KNIGHT, 0}};
        for (int[] k : byKind) {
            BestBeast x = Make.underLaw("111;0");
            x.holder(k[0], 1);
            x.holder(Make.HOLDER, 1);
            Make.beasts(x, 0, 50, 40, 30, 20);
            for (int beast = 0; beast < 4; beast++) {
                x.roll(beast, 1);
                String of = "whose(" + beast + ", 0), KIND " + k[0];
                due.is(of + ", taken", x.whose(beast, 0), beast < k[1] ? 0b01 : 0);
                x.roll(beast, 0);
                due.is(of + ", not taken", x.whose(beast, 0), beast < k[1] ? 0b10 : 0b11);
                x.roll(beast, Make.NONE);
            }
        }
    }

    private static long seedBehind(long seed, int draws) {
        BigInteger next = BigInteger.valueOf(seed);
        for (int i = 0; i < draws; i++) {
            next = next.multiply(BigInteger.valueOf(1103515245)).add(BigInteger.valueOf(12345))
                .mod(BigInteger.valueOf(2147483648L));
        }
        return next.longValueExact();
    }

    private static void isDrawn(BestBeast x, String of, int years, int draws) {
        for (int seed : new int[] {0, 1, 281, GREATEST}) {
            due.is("the SEED behind " + years + " years from " + seed + ", " + of, x.manors(years, seed, 2),
                seedBehind(seed, draws));
        }
    }

    private static void yearsAreOf1To60() {
        BestBeast x = Make.withHolders("111;0", 0);
        for (int years : new int[] {1, 2, 59, 60}) {
            isDrawn(x, "one holder, DEATH 0", years, years);
        }
        for (int years : new int[] {LEAST, -60, -1, 0, 61, 62, GREATEST}) {
            Make.refused(due, x, "manors(" + years + ", 5, 2)", () -> x.manors(years, 5, 2), Make.OUTSIDE);
        }
    }

    private static void aSeedIs0AtLeast() {
        BestBeast x = Make.withHolders("111;0", 0);
        due.is("manors(1, 0, 2)", x.manors(1, 0, 2), 12345);
        due.is("manors(1, 1, 2)", x.manors(1, 1, 2), 1103527590);
        due.is("manors(1, GREATEST, 2)", x.manors(1, GREATEST, 2), 1043980748);
        due.is("manors(1, GREATEST - 1, 2)", x.manors(1, GREATEST - 1, 2), 2087949151);
        for (int seed : new int[] {-1, -2, -12345, LEAST + 1, LEAST}) {
            for (int what = 0; what <= 2; what++) {
                int fit = what;
                Make.refused(due, x, "manors(1, " + seed + ", " + fit + ")", () -> x.manors(1, seed, fit),
                    Make.OUTSIDE);
            }
        }
    }

    private static void whatIsOf0To2() {
        BestBeast x = Make.withHolders("111;0", 0);
        x.beast(0, 7);
        due.is("manors(1, 0, 0)", x.manors(1, 0, 0), 0);
        due.is("manors(1, 0, 1)", x.manors(1, 0, 1), 1);
        due.is("manors(1, 0, 2)", x.manors(1, 0, 2), seedBehind(0, 3));
        for (int what : new int[] {LEAST, -1, 3, 4, GREATEST}) {
            Make.refused(due, x, "manors(1, 0, " + what + ")", () -> x.manors(1, 0, what), Make.OUTSIDE);
        }
    }

    private static void ofManorsOutsideIsToldBeforeState() {
        BestBeast x = new BestBeast();
        int[][] outside = {{0, 0, 0}, {61, 0, 0}, {1, -1, 0}, {1, 0, -1}, {1, 0, 3}, {LEAST, LEAST, LEAST},
            {GREATEST, GREATEST, GREATEST}};
        for (int[] o : outside) {
            Make.refused(due, x, Calls.told("manors", o), () -> x.manors(o[0], o[1], o[2]), Make.OUTSIDE);
        }
        Make.refused(due, x, "manors(1, 0, 0) of nobody", () -> x.manors(1, 0, 0), Make.STATE);
        Make.refused(due, x, "manors(60, GREATEST, 2) of nobody", () -> x.manors(60, GREATEST, 2), Make.STATE);
    }

    private static void theRestBy2ToThe31() {
        BestBeast x = Make.withHolders("111;0", 0);
        for (int seed : new int[] {0, 2, 3, 65535, 65536, 1 << 30, GREATEST - 2}) {
            int next = x.manors(1, seed, 2);
            due.is("the SEED behind " + seed, next, seedBehind(seed, 1));
            due.holds("it is 0 at least", next >= 0);
        }
    }

    private static void eachWhoLivesDrawsOnce() {
        for (int many = 1; many <= 4; many++) {
            BestBeast x = new BestBeast();
            for (int i = 0; i < many; i++) {
                x.holder(0, 0);
            }
            isDrawn(x, many + " holders", 7, 7 * many);
            x.die(many - 1);
            isDrawn(x, many + " holders, one dead", 7, 7 * (many - 1));
        }
        BestBeast x = Make.withHolders("111;0", 0, 0);
        x.die(0);
        x.die(1);
        for (int seed : new int[] {0, 77, GREATEST}) {
            due.is("all dead, nothing is drawn", x.manors(60, seed, 2), seed);
        }
    }

    private static void theDrawIsBelowHisDeath() {
        boolean[] drawn = new boolean[10];
        for (int seed = 0; seed < 40; seed++) {
            int draw = (int) (seedBehind(seed, 1) / 65536 % 10);
            drawn[draw] = true;
            for (int death = 0; death <= 9; death++) {
                BestBeast x = Make.withHolders("111;0", death);
                due.is("a DRAW of " + draw + " by DEATH " + death, x.manors(1, seed, 1), draw < death ? 0 : 1);
            }
        }
        for (int draw = 0; draw < 10; draw++) {
            due.holds(draw + " was drawn", drawn[draw]);
        }
    }

    private static void withoutBeastsNothingIsDrawnOfThem() {
        BestBeast x = Make.withHolders("111;0", 0, 0);
        isDrawn(x, "two holders, no beasts", 5, 10);
        x.beast(0, 5);
        isDrawn(x, "two holders, one beast", 5, 20);
        BestBeast gone = Make.withHolders("111;0", 0, 0);
        gone.beast(0, 5);
        gone.die(0);
        isDrawn(gone, "one dead, one beast that is gone", 5, 15);
        gone.die(1);
        isDrawn(gone, "all dead, one beast that is gone", 5, 10);
    }

    /** Holder 0 (DEATH 9) has beast 0 alone, holder 1 (DEATH 0) beast 1: what is taken by the DEATH of 0. */
    private static void theBeastIsDrawnBeforeTheHolder() {
        int asTold = 0;
        for (int seed = 0; seed < 60; seed++) {
            BestBeast x = Make.withHolders("300;0", 9, 0);
            Make.beasts(x, 0, 20);
            Make.beasts(x, 1, 50);
            boolean dies = seedBehind(seed, 1) / 65536 % 10 < 9;
            long beast = seedBehind(seed, 3) / 65536 % 2;
            long to = seedBehind(seed, 4) / 65536 % 2;
            boolean diesThen = seedBehind(seed, 5) / 65536 % 10 < 9;
            int his = (beast == 0 && to == 1 ? 0 : 20) + (beast == 1 && to == 0 ? 50 : 0);
            int due0 = dies ? 20 : diesThen ? his : 0;
            due.is("manors(2, " + seed + ", 0)", x.manors(2, seed, 0), due0);
            asTold += !dies && diesThen && his != 20 ? 1 : 0;
        }
        due.holds("a gift made a difference", asTold > 0);
    }

    private static void whereAGiftMayNotBeNoneIsMade() {
        BestBeast alone = Make.withHolders("105;0", 0);
        alone.beast(0, 5);
        isDrawn(alone, "one alone, who can give to himself alone", 60, 180);
        BestBeast gone = Make.withHolders("331;0", 9, 9, 9);
        gone.beast(0, 50);
        gone.die(0);
        BestBeast toTheDead = Make.withHolders("330;0", 0, 9);
        toTheDead.beast(1, 20);
        toTheDead.die(0);
        for (int seed = 0; seed < 30; seed++) {
            due.is("what is gone is given to nobody, SEED " + seed, gone.manors(60, seed, 0), 0);
            due.is("he dies, SEED " + seed, toTheDead.manors(60, seed, 1), 0);
            due.is("nothing is given to a dead one, SEED " + seed, toTheDead.manors(60, seed, 0), 20);
        }
    }

    /** Holder 0 gives his one beast in YEAR 0 (of the MANORS), and dies, if at all, in YEAR 1. */
    private static void theGiftIsOfTheYearInWhichItIsMade() {
        int given = 0;
        for (int seed = 0; seed < 200; seed++) {
            boolean dies = seedBehind(seed, 1) / 65536 % 10 < 5;
            boolean toTheOther = seedBehind(seed, 4) / 65536 % 2 == 1;
            boolean diesThen = seedBehind(seed, 5) / 65536 % 10 < 5;
            if (dies || !toTheOther || !diesThen) {
                continue;
            }
            given++;
            for (int voidYears = 0; voidYears <= 2; voidYears++) {
                BestBeast x = Make.withHolders("10" + voidYears + ";0", 5, 0);
                Make.years(x, 3);
                x.beast(0, 20);
                due.is("a gift of the year before, VOID " + voidYears + ", SEED " + seed, x.manors(2, seed, 0),
                    voidYears > 1 ? 20 : 0);
            }
        }
        due.holds("a gift was made", given > 0);
    }

    private static void theWorthIsOfTheseYearsAlone() {
        BestBeast x = Make.withHolders("111;0", 0, 0);
        Make.beasts(x, 0, 90);
        x.die(0);
        due.is("count(9)", x.count(9), 90);
        due.is("manors(60, 5, 0), nobody dies", x.manors(60, 5, 0), 0);
        x.holder(Make.HOLDER, 9);
        Make.beasts(x, 2, 7);
        int taken = x.manors(1, 0, 0) + x.manors(1, 1, 0) + x.manors(1, 2, 0);
        due.holds("what is taken is 7 or nothing: " + taken, taken == 7 || taken == 14 || taken == 21);
        due.is("count(9) behind manors()", x.count(9), 90);
    }

    private static void noneAndAllLiveThen() {
        BestBeast x = Make.withHolders("111;0", 0, 0, 0, 0);
        Make.beasts(x, 0, 1, 2, 3, 4, 5, 6);
        due.is("manors(60, 3, 1), DEATH 0", x.manors(60, 3, 1), 4);
        due.is("manors(60, 3, 0), DEATH 0", x.manors(60, 3, 0), 0);
        BestBeast y = Make.withHolders("331;0", 9, 9, 9, 9);
        Make.beasts(y, 0, 1, 2, 3, 4, 5, 6);
        due.is("manors(60, 3, 1), DEATH 9", y.manors(60, 3, 1), 0);
        due.is("count(5) behind manors()", y.count(5), 4);
        due.is("count(8) behind manors()", y.count(8), 0);
        due.is("count(7) behind manors()", y.count(7), 6);
    }
}
