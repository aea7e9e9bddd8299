/** HOLDERS of the Terms, and promises 6 to 9: a test for each sentence that names an edge. */
public final class HolderEdgesTest {
    private static final Due due = new Due("HolderEdgesTest");
    private static final int LEAST = Integer.MIN_VALUE;
    private static final int GREATEST = Integer.MAX_VALUE;

    public static void main(String[] args) {
        aKindIsOf0To4();
        aDeathIsOf0To9();
        holdersAreFourAtMost();
        theDeadAreCountedAmongTheFour();
        roomComesAgainByRestore();
        ofAHolderOutsideIsToldBeforeFull();
        eachLivesAtFirstAndHasNoHeir();
        nobodyIsKnownYet();
        numbersBeforeTheFirstAndBehindTheLast();
        whatIsOf0To8();
        ofAboutUnknownIsToldBeforeOutside();
        noneAndAllOfTheBeasts();
        theLordTakesNeitherLessThanNone();
        theChurchTakesNeitherLessThanNone();
        lossOfNothingAndOfAll();
        lossOfTheDeadIsNone();
        aKindIsAskedFrom0To4();
        allAreHoldersAndAKnightIsFree();
        hisOwnNumberNotThatOfTheKind();
        anHeirMayBeNobody();
        nobodyIsHisOwnHeir();
        anHeirMustBeThere();
        theDeadMayBeAndHaveHeirs();
        due.end();
    }

    private static void aKindIsOf0To4() {
        for (int kind = 0; kind <= 4; kind++) {
            BestBeast x = new BestBeast();
            due.is("holder(" + kind + ", 0)", x.holder(kind, 0), 0);
            due.is("about(0, 0)", x.about(0, 0), kind);
        }
        BestBeast x = new BestBeast();
        for (int kind : new int[] {LEAST, -1, 5, 256, 65536, GREATEST}) {
            Make.refused(due, x, "holder(" + kind + ", 0)", () -> x.holder(kind, 0), Make.OUTSIDE);
        }
        due.is("count(4) behind refused holders", x.count(4), 0);
    }

    private static void aDeathIsOf0To9() {
        for (int death = 0; death <= 9; death++) {
            BestBeast x = new BestBeast();
            due.is("holder(0, " + death + ")", x.holder(0, death), 0);
            due.is("about(0, 1)", x.about(0, 1), death);
        }
        BestBeast x = new BestBeast();
        for (int death : new int[] {LEAST, -1, 10, 256, 65536, GREATEST}) {
            Make.refused(due, x, "holder(0, " + death + ")", () -> x.holder(0, death), Make.OUTSIDE);
        }
        due.is("count(4) behind refused holders", x.count(4), 0);
    }

    private static void holdersAreFourAtMost() {
        BestBeast x = new BestBeast();
        for (int number = 0; number < 4; number++) {
            due.is("holder() " + number, x.holder(4 - number, 9 - number), number);
        }
        Make.refused(due, x, "a fifth holder", () -> x.holder(0, 0), Make.FULL);
        for (int number = 0; number < 4; number++) {
            due.is("about(" + number + ", 0)", x.about(number, 0), 4 - number);
            due.is("about(" + number + ", 1)", x.about(number, 1), 9 - number);
        }
    }

    private static void theDeadAreCountedAmongTheFour() {
        BestBeast x = Make.withHolders("111;0", 1, 1, 1, 1);
        for (int number = 0; number < 4; number++) {
            x.die(number);
        }
        Make.refused(due, x, "a fifth holder, all dead", () -> x.holder(0, 0), Make.FULL);
        due.is("count(4)", x.count(4), 4);
        due.is("count(5)", x.count(5), 0);
    }

    private static void roomComesAgainByRestore() {
        BestBeast x = Make.withHolders("111;0", 1, 1, 1);
        x.image();
        due.is("a fourth holder", x.holder(2, 5), 3);
        Make.refused(due, x, "a fifth holder", () -> x.holder(0, 0), Make.FULL);
        x.restore();
        due.is("a fourth holder behind restore()", x.holder(3, 6), 3);
        due.is("his KIND", x.about(3, 0), 3);
        due.is("his DEATH", x.about(3, 1), 6);
        Make.refused(due, x, "a fifth holder behind restore()", () -> x.holder(0, 0), Make.FULL);
    }

    private static void ofAHolderOutsideIsToldBeforeFull() {
        BestBeast x = Make.withHolders("111;0", 1, 1, 1, 1);
        int[][] outside = {{-1, 0}, {5, 0}, {0, -1}, {0, 10}, {LEAST, GREATEST}, {GREATEST, LEAST}};
        for (int[] o : outside) {
            Make.refused(due, x, "a fifth " + Calls.told("holder", o), () -> x.holder(o[0], o[1]), Make.OUTSIDE);
        }
    }

    private static void eachLivesAtFirstAndHasNoHeir() {
        BestBeast x = new BestBeast();
        for (int number = 0; number < 4; number++) {
            x.holder(number, 9);
            due.is("about(" + number + ", 2)", x.about(number, 2), 1);
            due.is("about(" + number + ", 3)", x.about(number, 3), Make.NONE);
            due.is("about(" + number + ", 4)", x.about(number, 4), 0);
            due.is("count(5)", x.count(5), number + 1);
        }
    }

    private static void isUnknown(BestBeast x, int holder) {
        String of = " of holder " + holder;
        Make.refused(due, x, "about()" + of, () -> x.about(holder, 0), Make.UNKNOWN);
        Make.refused(due, x, "as()" + of, () -> x.as(holder, 0), Make.UNKNOWN);
        Make.refused(due, x, "heir()" + of, () -> x.heir(holder, Make.NONE), Make.UNKNOWN);
        Make.refused(due, x, "beast()" + of, () -> x.beast(holder, 1), Make.UNKNOWN);
        Make.refused(due, x, "die()" + of, () -> x.die(holder), Make.UNKNOWN);
        Make.refused(due, x, "safe()" + of, () -> x.safe(holder, 0), Make.UNKNOWN);
        Make.refused(due, x, "giving()" + of, () -> x.giving(holder, 1), Make.UNKNOWN);
        Make.refused(due, x, "mean()" + of, () -> x.mean(holder, 1, 0), Make.UNKNOWN);
        Make.refused(due, x, "give() to" + of, () -> x.give(0, holder), Make.UNKNOWN);
        Make.refused(due, x, "whose() by the death" + of, () -> x.whose(0, holder), Make.UNKNOWN);
    }

    private static void nobodyIsKnownYet() {
        for (int number : new int[] {LEAST, -1, 0, 1, GREATEST}) {
            isUnknown(new BestBeast(), number);
        }
    }

    private static void numbersBeforeTheFirstAndBehindTheLast() {
        for (int many = 1; many <= 4; many++) {
            for (int number : new int[] {LEAST, -2, -1, many, many + 1, GREATEST}) {
                BestBeast x = new BestBeast();
                for (int i = 0; i < many; i++) {
                    x.holder(0, 1);
                }
                x.beast(0, 5);
                isUnknown(x, number);
                due.is("about() of the last of " + many, x.about(many - 1, 2), 1);
                due.is("die() of the last of " + many, x.die(many - 1), many == 1 ? 5 : 0);
            }
        }
    }

    private static void whatIsOf0To8() {
        BestBeast x = Make.withHolders("325;0", 7);
        Make.beasts(x, 0, 9, 8);
        due.is("about(0, 0)", x.about(0, 0), 0);
        due.is("about(0, 8)", x.about(0, 8), 17);
        for (int what : new int[] {LEAST, -1, 9, 10, GREATEST}) {
            Make.refused(due, x, "about(0, " + what + ")", () -> x.about(0, what), Make.OUTSIDE);
        }
    }

    private static void ofAboutUnknownIsToldBeforeOutside() {
        BestBeast x = Make.withHolders("111;0", 7);
        for (int wrong : new int[] {LEAST, -1, 9, GREATEST}) {
            Make.refused(due, x, "about(1, " + wrong + ")", () -> x.about(1, wrong), Make.UNKNOWN);
            Make.refused(due, x, "about(-1, " + wrong + ")", () -> x.about(-1, wrong), Make.UNKNOWN);
            Make.refused(due, x, "as(1, " + wrong + ")", () -> x.as(1, wrong), Make.UNKNOWN);
            Make.refused(due, x, "as(-1, " + wrong + ")", () -> x.as(-1, wrong), Make.UNKNOWN);
        }
    }

    private static void noneAndAllOfTheBeasts() {
        BestBeast x = Make.withHolders("111;0", 1, 1);
        Make.beasts(x, 1, 1, 2, 3, 4, 5, 6);
        due.is("BEASTS of one who has none", x.about(0, 4), 0);
        due.is("HELD of one who has none", x.about(0, 5), 0);
        due.is("BEASTS of one who has all", x.about(1, 4), 0b111111);
        due.is("HELD of one who has all", x.about(1, 5), 0b111111);
        for (int beast = 0; beast < 6; beast++) {
            x.give(beast, 0);
        }
        due.is("BEASTS of one who gave all", x.about(1, 4), 0);
        due.is("HELD of one who gave all", x.about(1, 5), 0b111111);
        due.is("HELD of one who was given all", x.about(0, 5), 0b111111);
    }

    private static void may(String law, int kind, int lord, int church) {
        BestBeast x = Make.underLaw(law);
        x.holder(kind, 1);
        due.is("LORD of KIND " + kind + " by " + law, x.about(0, 6), lord);
        due.is("CHURCH of KIND " + kind + " by " + law, x.about(0, 7), church);
    }

    private static void theLordTakesNeitherLessThanNone() {
        may("001;0", Make.WIDOW, 0, 0);
        may("101;0", Make.WIDOW, 0, 0);
        may("201;0", Make.WIDOW, 1, 0);
        may("301;0", Make.WIDOW, 2, 0);
        may("001;0", Make.HOLDER, 0, 0);
        may("301;0", Make.HOLDER, 3, 0);
        may("301;0", Make.CLERK, 3, 1);
        may("001;0", Make.FREE, 0, 0);
        may("301;0", Make.FREE, 0, 0);
        may("001;0", Make.KNIGHT, 0, 0);
        may("301;0", Make.KNIGHT, 0, 0);
    }

    private static void theChurchTakesNeitherLessThanNone() {
        may("001;0", Make.KNIGHT, 0, 0);
        may("011;0", Make.KNIGHT, 0, 0);
        may("021;0", Make.KNIGHT, 0, 0);
        may("031;0", Make.KNIGHT, 0, 1);
        may("001;0", Make.CLERK, 0, 1);
        may("031;0", Make.CLERK, 0, 4);
        may("031;0", Make.HOLDER, 0, 3);
        may("031;0", Make.WIDOW, 0, 3);
        may("031;0", Make.FREE, 0, 3);
    }

    private static int loss(String law, int kind, int... worths) {
        BestBeast x = Make.underLaw(law);
        x.holder(kind, 1);
        Make.beasts(x, 0, worths);
        return x.about(0, 8);
    }

    private static void lossOfNothingAndOfAll() {
        due.is("LOSS of one without beasts", loss("331;0", Make.CLERK), 0);
        due.is("LOSS where none may take", loss("001;0", Make.HOLDER, 99, 99), 0);
        due.is("LOSS of a knight, CHURCH 2", loss("321;0", Make.KNIGHT, 99, 99), 0);
        due.is("LOSS of six of the greatest WORTH", loss("331;9", Make.HOLDER, 99, 99, 99, 99, 99, 99), 594);
        due.is("LOSS, seven to take and six there", loss("331;0", Make.CLERK, 1, 1, 1, 1, 1, 1), 6);
        due.is("LOSS, six to take and one there", loss("331;0", Make.HOLDER, 1), 1);
        due.is("LOSS of LEAST", loss("331;9", Make.HOLDER, 8, 9, 10), 19);
        due.is("LOSS, all below LEAST", loss("331;9", Make.HOLDER, 8, 8, 1), 0);
        due.is("LOSS, LEAST 1", loss("331;1", Make.HOLDER, 1, 1), 2);
    }

    private static void lossOfTheDeadIsNone() {
        BestBeast x = Make.withHolders("105;0", 1, 1);
        Make.beasts(x, 0, 90, 80);
        x.give(1, 1);
        due.is("LOSS of one who lives", x.about(0, 8), 90);
        x.die(0);
        due.is("whether he lives", x.about(0, 2), 0);
        due.is("LOSS of one who does not", x.about(0, 8), 0);
    }

    private static void aKindIsAskedFrom0To4() {
        BestBeast x = new BestBeast();
        x.holder(Make.KNIGHT, 0);
        due.is("as(0, 0)", x.as(0, 0), 0);
        due.is("as(0, 4)", x.as(0, 4), 0);
        for (int kind : new int[] {LEAST, -1, 5, 256, GREATEST}) {
            Make.refused(due, x, "as(0, " + kind + ")", () -> x.as(0, kind), Make.OUTSIDE);
        }
    }

    private static void allAreHoldersAndAKnightIsFree() {
        for (int kind = 0; kind <= 4; kind++) {
            BestBeast x = new BestBeast();
            x.holder(kind, 0);
            for (int asked = 0; asked <= 4; asked++) {
                boolean such = asked == 0 || asked == kind || (asked == Make.FREE && kind == Make.KNIGHT);
                due.is("KIND " + kind + " as " + asked, x.as(0, asked), such ? 0 : Make.NONE);
            }
        }
    }

    private static void hisOwnNumberNotThatOfTheKind() {
        BestBeast x = new BestBeast();
        x.holder(Make.KNIGHT, 0);
        x.holder(Make.FREE, 0);
        x.holder(Make.WIDOW, 0);
        x.holder(Make.HOLDER, 0);
        due.is("as(0, FREE)", x.as(0, Make.FREE), 0);
        due.is("as(0, KNIGHT)", x.as(0, Make.KNIGHT), 0);
        due.is("as(1, FREE)", x.as(1, Make.FREE), 1);
        due.is("as(1, KNIGHT)", x.as(1, Make.KNIGHT), Make.NONE);
        due.is("as(2, WIDOW)", x.as(2, Make.WIDOW), 2);
        due.is("as(3, HOLDER)", x.as(3, Make.HOLDER), 3);
        due.is("as(3, WIDOW)", x.as(3, Make.WIDOW), Make.NONE);
        x.die(2);
        due.is("as(2, WIDOW) of a dead one", x.as(2, Make.WIDOW), 2);
    }

    private static void anHeirMayBeNobody() {
        BestBeast x = Make.withHolders("111;0", 1, 1);
        due.is("heir(0, NONE) at first", x.heir(0, Make.NONE), Make.NONE);
        due.is("heir(0, 1)", x.heir(0, 1), Make.NONE);
        due.is("heir(0, 1) again", x.heir(0, 1), 1);
        due.is("heir(0, NONE)", x.heir(0, Make.NONE), 1);
        due.is("about(0, 3)", x.about(0, 3), Make.NONE);
        due.is("heir(1, 0)", x.heir(1, 0), Make.NONE);
        due.is("about(1, 3), the least number", x.about(1, 3), 0);
    }

    private static void nobodyIsHisOwnHeir() {
        BestBeast x = Make.withHolders("111;0", 1, 1, 1, 1);
        for (int number = 0; number < 4; number++) {
            int same = number;
            Make.refused(due, x, "heir() of himself", () -> x.heir(same, same), Make.UNKNOWN);
        }
        for (int nobody : new int[] {LEAST, -1, 4, GREATEST}) {
            Make.refused(due, x, "heir() of nobody", () -> x.heir(nobody, nobody), Make.UNKNOWN);
        }
    }

    private static void anHeirMustBeThere() {
        BestBeast x = Make.withHolders("111;0", 1, 1);
        x.heir(0, 1);
        for (int nobody : new int[] {LEAST, -2, 2, 3, 4, GREATEST}) {
            Make.refused(due, x, "heir(0, " + nobody + ")", () -> x.heir(0, nobody), Make.UNKNOWN);
            Make.refused(due, x, "heir(" + nobody + ", 0)", () -> x.heir(nobody, 0), Make.UNKNOWN);
            due.is("about(0, 3) behind a refused heir", x.about(0, 3), 1);
        }
        BestBeast alone = Make.withHolders("111;0", 1);
        Make.refused(due, alone, "heir(0, 1) of one alone", () -> alone.heir(0, 1), Make.UNKNOWN);
        due.is("heir(0, NONE) of one alone", alone.heir(0, Make.NONE), Make.NONE);
    }

    private static void theDeadMayBeAndHaveHeirs() {
        BestBeast x = Make.withHolders("111;0", 1, 1, 1);
        x.heir(0, 1);
        x.die(1);
        due.is("about(0, 3), his heir is dead", x.about(0, 3), 1);
        due.is("heir(2, 1), a dead one", x.heir(2, 1), Make.NONE);
        due.is("heir(1, 2) of a dead one", x.heir(1, 2), Make.NONE);
        due.is("about(1, 3) of a dead one", x.about(1, 3), 2);
    }
}
