/** Promise 23, and how much an object is used: a test for each sentence that names an edge. */
public final class CountEdgesTest {
    private static final Due due = new Due("CountEdgesTest");

    public static void main(String[] args) {
        whatIsOf0To11();
        nothingThereYet();
        asManyAsThereMayBe();
        allDeadAndGone();
        whatWasTakenIsAllTogether();
        theLastOf512Calls();
        due.end();
    }

    private static void isCount(BestBeast x, String of, int... wants) {
        for (int what = 0; what < wants.length; what++) {
            due.is("count(" + what + "), " + of, x.count(what), wants[what]);
        }
    }

    private static void whatIsOf0To11() {
        for (Scene scene : Scene.ALL) {
            BestBeast x = scene.made();
            for (int what : new int[] {Integer.MIN_VALUE, -2, -1, 12, 13, Integer.MAX_VALUE}) {
                Make.refused(due, x, "count(" + what + "), " + scene.name, () -> x.count(what), Make.OUTSIDE);
            }
        }
    }

    private static void nothingThereYet() {
        isCount(new BestBeast(), "nothing there yet", 1, 1, 1, 0, 0, 0, 0, 0, 0, 0, 0, 0);
    }

    private static void asManyAsThereMayBe() {
        BestBeast x = Make.withHolders("335;9", 9, 9, 9, 9);
        Make.beasts(x, 0, 99, 99, 99, 99, 99, 99);
        Make.years(x, 9);
        Make.write(x, "12345678");
        isCount(x, "as many as there may be", 3, 3, 5, 9, 4, 4, 6, 6, 9, 0, 8, 1);
        x.holder(0, 0);
        x.beast(0, 1);
        x.letter(49);
        isCount(x, "behind what was refused", 3, 3, 5, 9, 4, 4, 6, 6, 9, 0, 8, 1);
    }

    private static void allDeadAndGone() {
        BestBeast x = Make.withHolders("330;0", 9, 9, 9, 9);
        Make.beasts(x, 3, 99, 99, 99, 99, 99, 99);
        for (int holder = 0; holder < 4; holder++) {
            x.die(holder);
        }
        isCount(x, "all dead and gone", 3, 3, 0, 0, 4, 0, 6, 0, 0, 594, 0, 1);
    }

    private static void whatWasTakenIsAllTogether() {
        BestBeast x = Make.withHolders("101;0", 1, 1, 1);
        Make.beasts(x, 0, 10, 1);
        Make.beasts(x, 1, 20);
        x.die(2);
        due.is("count(9), nothing taken", x.count(9), 0);
        x.die(0);
        due.is("count(9), one taken, one gone", x.count(9), 10);
        due.is("count(7), one taken, one gone", x.count(7), 1);
        x.die(0);
        due.is("count(9) behind a refused death", x.count(9), 10);
        x.die(1);
        due.is("count(9), two taken", x.count(9), 30);
    }

    private static void theLastOf512Calls() {
        BestBeast x = new BestBeast();
        for (int call = 1; call < Calls.MOST; call++) {
            due.is("letter() or blank(), call " + call, call % 9 == 0 ? x.blank() : x.letter(126),
                call % 9 == 0 ? 8 : call % 9);
        }
        due.is("count(10), the last call", x.count(10), (Calls.MOST - 1) % 9);
        BestBeast kept = Make.withHolders("111;0", 1);
        kept.beast(0, 9);
        // so far there were 9 calls
        for (int call = 10; call + 3 < Calls.MOST; call += 3) {
            kept.image();
            due.is("die(0)", kept.die(0), 9);
            due.is("restore()", kept.restore(), 0);
        }
        due.is("count(9), of so many calls", kept.count(9), 0);
    }
}
