/** Promises 6 to 9: holder, about, as, heir. */
public final class HoldersTest {
    private static final Due due = new Due("HoldersTest");

    public static void main(String[] args) {
        holders();
        abouts();
        shares();
        held();
        losses();
        casts();
        heirs();
        due.end();
    }

    private static void holders() {
        BestBeast x = new BestBeast();
        int[][] wrong = {{-1, 0}, {5, 0}, {0, -1}, {0, 10}, {Integer.MIN_VALUE, 3}, {2, Integer.MAX_VALUE}};
        for (int[] w : wrong) {
            Make.refused(due, x, "holder(" + w[0] + ", " + w[1] + ")", () -> x.holder(w[0], w[1]), Make.OUTSIDE);
        }
        for (int number = 0; number < 4; number++) {
            due.is("holder() " + number, x.holder(number + 1, number * 3), number);
            due.is("count(4)", x.count(4), number + 1);
            due.is("count(5)", x.count(5), number + 1);
        }
        Make.refused(due, x, "a fifth holder", () -> x.holder(0, 0), Make.FULL);
        Make.refused(due, x, "a fifth holder of no kind", () -> x.holder(5, 0), Make.OUTSIDE);
        x.die(0);
        Make.refused(due, x, "a fifth holder, one dead", () -> x.holder(0, 0), Make.FULL);
    }

    private static void abouts() {
        BestBeast x = Make.underLaw("111;0");
        x.holder(Make.CLERK, 9);
        x.holder(Make.KNIGHT, 0);
        Make.beasts(x, 1, 7, 8);
        Make.beasts(x, 0, 9);
        x.heir(0, 1);
        isAbout(x, 0, 2, 9, 1, 1, 0b100, 0b100, 1, 2, 9);
        isAbout(x, 1, 4, 0, 1, Make.NONE, 0b011, 0b011, 0, 0, 0);
        x.die(0);
        isAbout(x, 0, 2, 9, 0, 1, 0, 0, 1, 2, 0);
        for (int wrong : new int[] {-1, 9, Integer.MIN_VALUE, Integer.MAX_VALUE}) {
            Make.refused(due, x, "about(0, " + wrong + ")", () -> x.about(0, wrong), Make.OUTSIDE);
        }
        for (int wrong : new int[] {-1, 2, 4, Integer.MIN_VALUE, Integer.MAX_VALUE}) {
            Make.refused(due, x, "about(" + wrong + ", 0)", () -> x.about(wrong, 0), Make.UNKNOWN);
            Make.refused(due, x, "about(" + wrong + ", 9)", () -> x.about(wrong, 9), Make.UNKNOWN);
        }
    }

    private static void isAbout(BestBeast x, int holder, int... wants) {
        for (int what = 0; what < wants.length; what++) {
            due.is("about(" + holder + ", " + what + ")", x.about(holder, what), wants[what]);
        }
    }

    private static void shares() {
        for (int lord = 0; lord <= 3; lord++) {
            for (int church = 0; church <= 3; church++) {
                int[] lords = {lord, Math.max(0, lord - 1), lord, 0, 0};
                int[] churches = {church, church, church + 1, church, Math.max(0, church - 2)};
                for (int kind = 0; kind <= 4; kind++) {
                    BestBeast x = Make.underLaw("" + lord + church + "1;0");
                    x.holder(kind, 1);
                    String by = " of kind " + kind + " by " + lord + church;
                    due.is("about(0, 6)" + by, x.about(0, 6), lords[kind]);
                    due.is("about(0, 7)" + by, x.about(0, 7), churches[kind]);
                    Make.beasts(x, 0, 1, 2, 4, 8, 16, 32);
                    int many = lords[kind] + churches[kind];
                    due.is("about(0, 8)" + by, x.about(0, 8), 64 - (64 >> Math.min(6, many)));
                }
            }
        }
    }

    private static void held() {
        for (int voidYears = 0; voidYears <= 5; voidYears++) {
            BestBeast x = Make.withHolders("11" + voidYears + ";0", 3, 3, 3);
            Make.beasts(x, 0, 10, 20);
            x.year();
            x.give(1, 1);
            for (int later = 0; later <= 6; later++) {
                String by = " " + later + " years later, void " + voidYears;
                due.is("about(0, 5)" + by, x.about(0, 5), later < voidYears ? 0b11 : 0b01);
                due.is("about(0, 4)" + by, x.about(0, 4), 0b01);
                due.is("about(1, 5)" + by, x.about(1, 5), 0b10);
                x.year();
            }
        }
        BestBeast x = Make.withHolders("112;0", 3, 3, 3);
        Make.beasts(x, 0, 10);
        x.give(0, 1);
        x.give(0, 2);
        due.is("held of one who gave it before the last", x.about(0, 5), 0);
        due.is("held of the last to give", x.about(1, 5), 1);
        due.is("held of whose it is", x.about(2, 5), 1);
        x.die(1);
        due.is("a void gift is taken of the giver who dies", x.beastOf(0, 1), Make.NONE);
        x.beast(0, 5);
        x.give(1, 2);
        x.heir(2, 0);
        Make.write(x, "002;0");
        x.law();
        x.die(0);
        due.is("held of a dead one who gave it", x.about(0, 5), 0b10);
        due.is("loss of a dead one", x.about(0, 8), 0);
    }

    private static void losses() {
        BestBeast x = Make.withHolders("101;6", 3, 3);
        Make.beasts(x, 0, 5, 6, 5);
        due.is("loss, one of LEAST", x.about(0, 8), 6);
        Make.write(x, "311;6");
        x.law();
        due.is("loss, more to take than there are of LEAST", x.about(0, 8), 6);
        Make.write(x, "311;0");
        x.law();
        due.is("loss, LEAST 0", x.about(0, 8), 16);
        Make.write(x, "001;0");
        x.law();
        due.is("loss, none taken", x.about(0, 8), 0);
    }

    private static void casts() {
        BestBeast x = new BestBeast();
        int[] kinds = {Make.WIDOW, Make.CLERK, Make.FREE, Make.KNIGHT};
        for (int kind : kinds) {
            x.holder(kind, 0);
        }
        int no = Make.NONE;
        int[][] wants = {{0, 0, no, no, no}, {1, no, 1, no, no}, {2, no, no, 2, no}, {3, no, no, 3, 3}};
        for (int h = 0; h < 4; h++) {
            for (int kind = 0; kind <= 4; kind++) {
                due.is("as(" + h + ", " + kind + ")", x.as(h, kind), wants[h][kind]);
            }
        }
        x.die(3);
        due.is("as(3, 3) of a dead knight", x.as(3, 3), 3);
        Make.refused(due, x, "as(0, -1)", () -> x.as(0, -1), Make.OUTSIDE);
        Make.refused(due, x, "as(0, 5)", () -> x.as(0, 5), Make.OUTSIDE);
        Make.refused(due, x, "as(4, 5)", () -> x.as(4, 5), Make.UNKNOWN);
        Make.refused(due, x, "as(-1, 0)", () -> x.as(-1, 0), Make.UNKNOWN);
        BestBeast y = Make.withHolders("111;0", 1);
        for (int kind = 0; kind <= 4; kind++) {
            due.is("as(0, " + kind + ") of a plain holder", y.as(0, kind), kind == 0 ? 0 : no);
        }
    }

    private static void heirs() {
        BestBeast x = Make.withHolders("111;0", 1, 1, 1);
        due.is("heir(0, 1)", x.heir(0, 1), Make.NONE);
        due.is("heir(0, 2)", x.heir(0, 2), 1);
        due.is("about(0, 3)", x.about(0, 3), 2);
        due.is("about(2, 3)", x.about(2, 3), Make.NONE);
        due.is("heir(0, NONE)", x.heir(0, Make.NONE), 2);
        due.is("heir(0, NONE) again", x.heir(0, Make.NONE), Make.NONE);
        x.die(1);
        due.is("a dead heir", x.heir(0, 1), Make.NONE);
        due.is("a dead one's heir", x.heir(1, 0), Make.NONE);
        due.is("about(1, 3)", x.about(1, 3), 0);
        int[][] wrong = {{3, 0}, {-1, 0}, {0, 3}, {0, -2}, {0, 0}, {1, 1}, {-1, -1}, {0, Integer.MIN_VALUE}};
        for (int[] w : wrong) {
            Make.refused(due, x, "heir(" + w[0] + ", " + w[1] + ")", () -> x.heir(w[0], w[1]), Make.UNKNOWN);
        }
    }
}
