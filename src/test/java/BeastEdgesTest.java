/** BEASTS, GIFTS, DEATHS and YEARS of the Terms, and promises 10 to 14: a test for each sentence with an edge. */
public final class BeastEdgesTest {
    private static final Due due = new Due("BeastEdgesTest");
    private static final int LEAST = Integer.MIN_VALUE;
    private static final int GREATEST = Integer.MAX_VALUE;
    private static final int[] NO_BEAST_OF_SIX = {LEAST, -2, -1, 6, 7, GREATEST};

    public static void main(String[] args) {
        aWorthIsOf1To99();
        beastsAreSixAtMost();
        theGoneAreCountedAmongTheSix();
        roomComesAgainByRestore();
        ofABeastTheFirstRefusalIsTold();
        theDeadHaveNoBeasts();
        whatIsOf0To4();
        ofBeastOfUnknownIsToldBeforeOutside();
        noBeastIsKnownYet();
        numbersBeforeTheFirstAndBehindTheLast();
        nothingIsKnownOfABeastAtFirst();
        giftsAreToAnotherOneWhoLives();
        whatIsGoneIsNotGiven();
        ofAGiftUnknownIsToldBeforeState();
        theFirstYearIs0();
        theLastToGiveIsKnown();
        aGiftIsHeldWhileTheYearsAreLessThanVoid();
        ofTheDeadTheBestAreTaken();
        ofLikeOnesTheLeastNumber();
        worthLeastOrMore();
        asManyAsTheyMay();
        voidGiftsAreTakenOfWhoseTheyAre();
        theHeirWhoLivesHasTheRest();
        withoutOneTheRestIsGone();
        nobodyGaveWhatAnHeirHas();
        onlyOneWhoLivesDies();
        theYearsGoOnByOne();
        due.end();
    }

    private static void isBeast(BestBeast x, String of, int beast, int owner, int giver, int year) {
        due.is("whose beast " + beast + " is, " + of, x.beastOf(beast, 1), owner);
        due.is("who gave beast " + beast + ", " + of, x.beastOf(beast, 2), giver);
        due.is("when beast " + beast + " was given, " + of, x.beastOf(beast, 3), year);
    }

    private static void isGone(BestBeast x, String of, int beast) {
        isBeast(x, of, beast, Make.NONE, Make.NONE, Make.NONE);
    }

    private static void aWorthIsOf1To99() {
        for (int worth : new int[] {1, 2, 98, 99}) {
            BestBeast x = Make.withHolders("111;0", 1);
            due.is("beast(0, " + worth + ")", x.beast(0, worth), 0);
            due.is("its WORTH", x.beastOf(0, 0), worth);
        }
        BestBeast x = Make.withHolders("111;0", 1);
        for (int worth : new int[] {LEAST, -99, -1, 0, 100, 257, 65537, GREATEST}) {
            Make.refused(due, x, "beast(0, " + worth + ")", () -> x.beast(0, worth), Make.OUTSIDE);
        }
        due.is("count(6) behind refused beasts", x.count(6), 0);
    }

    private static void beastsAreSixAtMost() {
        BestBeast x = Make.withHolders("111;0", 1, 1);
        for (int number = 0; number < 6; number++) {
            due.is("beast number " + number, x.beast(number % 2, 90 + number), number);
        }
        Make.refused(due, x, "a seventh beast", () -> x.beast(0, 1), Make.FULL);
        Make.refused(due, x, "a seventh beast of another one", () -> x.beast(1, 99), Make.FULL);
        for (int number = 0; number < 6; number++) {
            due.is("WORTH of beast " + number, x.beastOf(number, 0), 90 + number);
        }
        due.is("BEASTS of 0", x.about(0, 4), 0b010101);
        due.is("BEASTS of 1", x.about(1, 4), 0b101010);
    }

    private static void theGoneAreCountedAmongTheSix() {
        BestBeast x = Make.withHolders("111;0", 1, 1);
        Make.beasts(x, 0, 1, 2, 3, 4, 5, 6);
        x.die(0);
        due.is("count(6), all gone", x.count(6), 6);
        due.is("count(7), all gone", x.count(7), 0);
        Make.refused(due, x, "a seventh beast, all gone", () -> x.beast(1, 1), Make.FULL);
    }

    private static void roomComesAgainByRestore() {
        BestBeast x = Make.withHolders("111;0", 1);
        Make.beasts(x, 0, 1, 2, 3, 4, 5);
        x.image();
        due.is("a sixth beast", x.beast(0, 6), 5);
        Make.refused(due, x, "a seventh beast", () -> x.beast(0, 7), Make.FULL);
        x.restore();
        due.is("a sixth beast behind restore()", x.beast(0, 8), 5);
        due.is("its WORTH", x.beastOf(5, 0), 8);
        Make.refused(due, x, "a seventh beast behind restore()", () -> x.beast(0, 7), Make.FULL);
    }

    private static void ofABeastTheFirstRefusalIsTold() {
        BestBeast x = Make.withHolders("111;0", 1, 1);
        x.die(1);
        Make.refused(due, x, "unknown, outside", () -> x.beast(2, 0), Make.UNKNOWN);
        Make.refused(due, x, "outside, dead", () -> x.beast(1, 100), Make.OUTSIDE);
        Make.refused(due, x, "dead", () -> x.beast(1, 99), Make.STATE);
        Make.beasts(x, 0, 1, 2, 3, 4, 5, 6);
        Make.refused(due, x, "unknown, outside, full", () -> x.beast(-1, 100), Make.UNKNOWN);
        Make.refused(due, x, "unknown, full", () -> x.beast(2, 1), Make.UNKNOWN);
        Make.refused(due, x, "outside, dead, full", () -> x.beast(1, 0), Make.OUTSIDE);
        Make.refused(due, x, "outside, full", () -> x.beast(0, 100), Make.OUTSIDE);
        Make.refused(due, x, "dead, full", () -> x.beast(1, 1), Make.STATE);
        Make.refused(due, x, "full", () -> x.beast(0, 1), Make.FULL);
    }

    private static void theDeadHaveNoBeasts() {
        BestBeast x = Make.withHolders("001;0", 1, 1);
        Make.beasts(x, 0, 5, 6);
        x.heir(0, 1);
        x.heir(1, 0);
        x.die(1);
        x.die(0);
        due.is("BEASTS of a dead one", x.about(0, 4), 0);
        due.is("BEASTS of his dead heir", x.about(1, 4), 0);
        isGone(x, "whose heir is dead", 0);
        isGone(x, "whose heir is dead", 1);
        Make.refused(due, x, "a beast of a dead one", () -> x.beast(0, 5), Make.STATE);
    }

    private static void whatIsOf0To4() {
        BestBeast x = Make.withHolders("111;0", 1);
        x.beast(0, 50);
        x.roll(0, 1);
        due.is("beastOf(0, 0)", x.beastOf(0, 0), 50);
        due.is("beastOf(0, 4)", x.beastOf(0, 4), 1);
        for (int what : new int[] {LEAST, -1, 5, 6, GREATEST}) {
            Make.refused(due, x, "beastOf(0, " + what + ")", () -> x.beastOf(0, what), Make.OUTSIDE);
        }
    }

    private static void ofBeastOfUnknownIsToldBeforeOutside() {
        BestBeast x = Make.withHolders("111;0", 1);
        x.beast(0, 50);
        for (int wrong : new int[] {LEAST, -1, 5, GREATEST}) {
            Make.refused(due, x, "beastOf(1, " + wrong + ")", () -> x.beastOf(1, wrong), Make.UNKNOWN);
            Make.refused(due, x, "beastOf(-1, " + wrong + ")", () -> x.beastOf(-1, wrong), Make.UNKNOWN);
        }
    }

    private static void isUnknown(BestBeast x, int beast) {
        String of = " of beast " + beast;
        Make.refused(due, x, "beastOf()" + of, () -> x.beastOf(beast, 0), Make.UNKNOWN);
        Make.refused(due, x, "give()" + of, () -> x.give(beast, 1), Make.UNKNOWN);
        Make.refused(due, x, "roll()" + of, () -> x.roll(beast, 1), Make.UNKNOWN);
        Make.refused(due, x, "whose()" + of, () -> x.whose(beast, 0), Make.UNKNOWN);
    }

    private static void noBeastIsKnownYet() {
        for (int number : new int[] {LEAST, -1, 0, 1, GREATEST}) {
            isUnknown(new BestBeast(), number);
            isUnknown(Make.withHolders("111;0", 1, 1), number);
        }
    }

    private static void numbersBeforeTheFirstAndBehindTheLast() {
        for (int many = 1; many <= 6; many++) {
            BestBeast x = Make.withHolders("111;0", 1, 1);
            for (int worth = 1; worth <= many; worth++) {
                x.beast(0, worth);
            }
            for (int number : new int[] {LEAST, -2, -1, many, many + 1, GREATEST}) {
                isUnknown(x, number);
            }
            due.is("WORTH of the last of " + many, x.beastOf(many - 1, 0), many);
            due.is("give() of the last of " + many, x.give(many - 1, 1), 0);
        }
    }

    private static void nothingIsKnownOfABeastAtFirst() {
        BestBeast x = Make.withHolders("111;0", 1, 1);
        Make.years(x, 2);
        x.beast(1, 50);
        isBeast(x, "at first", 0, 1, Make.NONE, Make.NONE);
        due.is("what is told of it, at first", x.beastOf(0, 4), Make.NONE);
    }

    private static void giftsAreToAnotherOneWhoLives() {
        BestBeast x = Make.withHolders("111;0", 1, 1, 1);
        Make.beasts(x, 0, 10, 20);
        x.die(2);
        Make.refused(due, x, "a gift to himself", () -> x.give(0, 0), Make.STATE);
        Make.refused(due, x, "a gift to a dead one", () -> x.give(0, 2), Make.STATE);
        due.is("a gift to another one who lives", x.give(0, 1), 0);
        Make.refused(due, x, "the same gift again", () -> x.give(0, 1), Make.STATE);
        isBeast(x, "behind refused gifts", 0, 1, 0, 0);
        isBeast(x, "behind refused gifts", 1, 0, Make.NONE, Make.NONE);
        BestBeast alone = Make.withHolders("111;0", 1);
        alone.beast(0, 5);
        Make.refused(due, alone, "a gift of one alone", () -> alone.give(0, 0), Make.STATE);
    }

    private static void whatIsGoneIsNotGiven() {
        BestBeast x = Make.withHolders("101;0", 1, 1, 1);
        Make.beasts(x, 0, 10, 20);
        x.die(0);
        for (int beast = 0; beast < 2; beast++) {
            int gone = beast;
            isGone(x, "taken, or without an heir", beast);
            for (int to = 0; to < 3; to++) {
                int other = to;
                Make.refused(due, x, "a gift of what is gone, to " + to, () -> x.give(gone, other), Make.STATE);
            }
        }
    }

    private static void ofAGiftUnknownIsToldBeforeState() {
        BestBeast x = Make.withHolders("111;0", 1, 1);
        x.beast(0, 5);
        x.die(0);
        for (int nobody : new int[] {LEAST, -1, 2, GREATEST}) {
            Make.refused(due, x, "what is gone, to " + nobody, () -> x.give(0, nobody), Make.UNKNOWN);
        }
        for (int nothing : NO_BEAST_OF_SIX) {
            Make.refused(due, x, "beast " + nothing + " to a dead one", () -> x.give(nothing, 0), Make.UNKNOWN);
            Make.refused(due, x, "beast " + nothing + " to nobody", () -> x.give(nothing, 2), Make.UNKNOWN);
        }
    }

    private static void theFirstYearIs0() {
        BestBeast x = Make.withHolders("111;0", 1, 1);
        due.is("count(8) at first", x.count(8), 0);
        x.beast(0, 5);
        x.give(0, 1);
        isBeast(x, "given in the first year", 0, 1, 0, 0);
        due.is("the year ends", x.year(), 1);
        isBeast(x, "a year later", 0, 1, 0, 0);
        x.give(0, 0);
        isBeast(x, "given in the second year", 0, 0, 1, 1);
    }

    private static void theLastToGiveIsKnown() {
        BestBeast x = Make.withHolders("115;0", 1, 1, 1, 1);
        x.beast(0, 5);
        int[] to = {1, 2, 3, 0};
        for (int i = 0; i < to.length; i++) {
            due.is("give() to " + to[i], x.give(0, to[i]), i);
            isBeast(x, "behind " + (i + 1) + " gifts", 0, to[i], i, i);
            for (int h = 0; h < 4; h++) {
                due.is("HELD of " + h + " behind " + (i + 1) + " gifts", x.about(h, 5), h == i || h == to[i] ? 1 : 0);
            }
            x.year();
        }
    }

    private static void aGiftIsHeldWhileTheYearsAreLessThanVoid() {
        for (int voidYears = 0; voidYears <= 5; voidYears++) {
            for (int first : new int[] {0, 7}) {
                BestBeast x = Make.withHolders("10" + voidYears + ";0", 1, 1);
                x.beast(0, 5);
                Make.years(x, first);
                x.give(0, 1);
                for (int later = 0; later <= 6; later++) {
                    String when = " of VOID " + voidYears + ", given in " + first + ", " + later + " years later";
                    due.is("HELD" + when, x.about(0, 5), later < voidYears ? 1 : 0);
                    due.is("LOSS" + when, x.about(0, 8), later < voidYears ? 5 : 0);
                    x.year();
                }
            }
        }
    }

    /** By the DEATH of holder 0 these were taken, as bits, of his beasts, which his heir has then. */
    private static void taken(String law, int kind, int bits, int... worths) {
        BestBeast x = Make.underLaw(law);
        x.holder(kind, 1);
        x.holder(Make.HOLDER, 1);
        Make.beasts(x, 0, worths);
        x.heir(0, 1);
        String of = " of KIND " + kind + " by " + law;
        int worth = 0;
        for (int b = 0; b < worths.length; b++) {
            worth += (bits >> b & 1) == 1 ? worths[b] : 0;
        }
        due.is("the WORTH that was taken" + of, x.die(0), worth);
        due.is("count(9)" + of, x.count(9), worth);
        due.is("what was not taken" + of, x.about(1, 4), ~bits & ((1 << worths.length) - 1));
        due.is("count(7)" + of, x.count(7), worths.length - Integer.bitCount(bits));
    }

    private static void ofTheDeadTheBestAreTaken() {
        taken("101;0", Make.HOLDER, 0b010000, 10, 20, 30, 29, 31, 1);
        taken("011;0", Make.HOLDER, 0b010000, 10, 20, 30, 29, 31, 1);
        taken("111;0", Make.HOLDER, 0b010100, 10, 20, 30, 29, 31, 1);
        taken("111;0", Make.HOLDER, 0b000011, 99, 98, 97, 96, 95, 94);
        taken("111;0", Make.HOLDER, 0b110000, 1, 2, 3, 4, 5, 6);
    }

    private static void ofLikeOnesTheLeastNumber() {
        taken("101;0", Make.HOLDER, 0b000001, 7, 7, 7, 7, 7, 7);
        taken("111;0", Make.HOLDER, 0b000011, 7, 7, 7, 7, 7, 7);
        taken("111;0", Make.HOLDER, 0b001010, 6, 7, 6, 8, 7, 6);
        taken("211;0", Make.HOLDER, 0b011010, 6, 7, 6, 8, 7, 6);
        taken("221;0", Make.HOLDER, 0b011011, 6, 7, 6, 8, 7, 6);
    }

    private static void worthLeastOrMore() {
        taken("331;9", Make.HOLDER, 0b110, 8, 9, 10);
        taken("331;9", Make.HOLDER, 0, 8, 8, 8);
        taken("331;1", Make.HOLDER, 0b11, 1, 2);
        taken("331;2", Make.HOLDER, 0b10, 1, 2);
        taken("331;0", Make.HOLDER, 0b11, 1, 2);
        taken("101;9", Make.HOLDER, 0b10, 8, 9);
    }

    private static void asManyAsTheyMay() {
        taken("001;0", Make.HOLDER, 0, 5, 6);
        taken("331;0", Make.HOLDER, 0b111111, 5, 6, 7, 8, 9, 1);
        taken("331;0", Make.HOLDER, 0b1, 5);
        taken("331;0", Make.HOLDER, 0);
        taken("101;0", Make.WIDOW, 0, 5, 6);
        taken("311;0", Make.WIDOW, 0b111, 5, 6, 7);
        taken("311;0", Make.WIDOW, 0b1110, 4, 5, 6, 7);
        taken("001;0", Make.CLERK, 0b10, 5, 6);
        taken("331;0", Make.CLERK, 0b111111, 5, 6, 7, 8, 9, 1);
        taken("301;0", Make.FREE, 0, 5, 6);
        taken("311;0", Make.FREE, 0b10, 5, 6);
        taken("321;0", Make.KNIGHT, 0, 5, 6);
        taken("331;0", Make.KNIGHT, 0b10, 5, 6);
    }

    private static void voidGiftsAreTakenOfWhoseTheyAre() {
        BestBeast x = Make.withHolders("102;0", 1, 1, 1);
        Make.beasts(x, 0, 40, 30, 20);
        x.give(0, 1);
        x.give(1, 1);
        x.heir(0, 2);
        x.year();
        due.is("die() with two gifts that are void", x.die(0), 40);
        isGone(x, "a void gift that was taken", 0);
        isBeast(x, "a void gift that was not taken", 1, 1, 0, 0);
        isBeast(x, "what was his, and was not taken", 2, 2, Make.NONE, Make.NONE);
        BestBeast y = Make.withHolders("102;0", 1, 1);
        Make.beasts(y, 0, 40, 30);
        y.give(0, 1);
        Make.years(y, 2);
        due.is("die() with a gift that is void no more", y.die(0), 30);
        isBeast(y, "a gift that is void no more", 0, 1, 0, 0);
    }

    private static void theHeirWhoLivesHasTheRest() {
        BestBeast x = Make.withHolders("101;0", 1, 1, 1);
        Make.beasts(x, 0, 40, 30, 20);
        x.heir(0, 1);
        x.heir(1, 2);
        x.heir(2, 1);
        due.is("the first death", x.die(0), 40);
        due.is("BEASTS of the heir", x.about(1, 4), 0b110);
        due.is("the second death", x.die(1), 30);
        due.is("BEASTS of the heir's heir", x.about(2, 4), 0b100);
        due.is("the third death", x.die(2), 20);
        due.is("count(9)", x.count(9), 90);
        due.is("count(7)", x.count(7), 0);
    }

    private static void withoutOneTheRestIsGone() {
        BestBeast x = Make.withHolders("101;0", 1, 1, 1);
        Make.beasts(x, 0, 40, 30);
        Make.beasts(x, 1, 20, 10);
        due.is("die() of one who has no heir", x.die(0), 40);
        isGone(x, "not taken, without an heir", 1);
        x.heir(1, 0);
        due.is("die() of one whose heir is dead", x.die(1), 20);
        isGone(x, "not taken, the heir dead", 3);
        due.is("count(9) is what was taken alone", x.count(9), 60);
    }

    private static void nobodyGaveWhatAnHeirHas() {
        BestBeast x = Make.withHolders("005;0", 1, 1, 1);
        x.beast(0, 5);
        x.give(0, 1);
        x.heir(1, 2);
        x.die(1);
        isBeast(x, "given to one who died, his heir's", 0, 2, Make.NONE, Make.NONE);
        due.is("HELD of one who gave it to him who died", x.about(0, 5), 0);
        due.is("give() of what an heir has", x.give(0, 0), 2);
        isBeast(x, "given by the heir", 0, 0, 2, 0);
    }

    private static void onlyOneWhoLivesDies() {
        BestBeast x = Make.withHolders("111;0", 0, 9);
        for (int nobody : new int[] {LEAST, -1, 2, GREATEST}) {
            Make.refused(due, x, "die(" + nobody + ")", () -> x.die(nobody), Make.UNKNOWN);
        }
        due.is("die(1)", x.die(1), 0);
        Make.refused(due, x, "die(1) again", () -> x.die(1), Make.STATE);
        due.is("die(0) of the last", x.die(0), 0);
        Make.refused(due, x, "die(0) again", () -> x.die(0), Make.STATE);
        due.is("count(5), all dead", x.count(5), 0);
    }

    private static void theYearsGoOnByOne() {
        BestBeast x = new BestBeast();
        for (int year = 1; year < Calls.MOST; year++) {
            due.is("year()", x.year(), year);
        }
        due.is("count(8) by the last call", x.count(8), Calls.MOST - 1);
    }
}
