/** Promises 21 to 24: image, restore, count, digest. */
public final class AllTest {
    private static final Due due = new Due("AllTest");

    public static void main(String[] args) {
        images();
        whatAnImageKeeps();
        whatAnImageDoesNotKeep();
        numbersComeAgain();
        counts();
        digests();
        due.end();
    }

    private static void images() {
        BestBeast x = new BestBeast();
        Make.refused(due, x, "restore() at first", x::restore, Make.STATE);
        due.is("image()", x.image(), 0);
        Make.years(x, 3);
        due.is("restore()", x.restore(), 0);
        due.is("count(8)", x.count(8), 0);
        Make.years(x, 2);
        due.is("image(), the latest", x.image(), 2);
        x.year();
        due.is("restore() to the latest", x.restore(), 2);
        due.is("restore() again", x.restore(), 2);
    }

    private static void whatAnImageKeeps() {
        BestBeast x = Make.withHolders("213;4", 1, 2, 3);
        Make.beasts(x, 0, 10, 20, 30, 40);
        x.heir(0, 1);
        x.year();
        x.give(0, 1);
        x.roll(0, 1);
        x.roll(1, 0);
        x.die(2);
        long before = x.digest();
        due.is("image()", x.image(), 1);
        due.is("digest() behind image()", x.digest(), before);
        x.year();
        x.holder(Make.KNIGHT, 9);
        x.beast(3, 99);
        x.heir(0, 3);
        x.heir(3, 0);
        x.give(0, 3);
        x.roll(0, Make.NONE);
        x.roll(2, 1);
        x.give(1, 3);
        x.die(0);
        due.is("restore()", x.restore(), 1);
        due.is("digest() behind restore()", x.digest(), before);
        due.is("about(3, 0), gone", x.about(3, 0), Make.UNKNOWN);
        due.is("beastOf(4, 0), gone", x.beastOf(4, 0), Make.UNKNOWN);
        due.is("about(0, 3)", x.about(0, 3), 1);
        due.is("beastOf(0, 1)", x.beastOf(0, 1), 1);
        due.is("beastOf(0, 2)", x.beastOf(0, 2), 0);
        due.is("beastOf(0, 3)", x.beastOf(0, 3), 1);
        due.is("beastOf(0, 4)", x.beastOf(0, 4), 1);
        due.is("beastOf(2, 4)", x.beastOf(2, 4), Make.NONE);
        due.is("count(9)", x.count(9), 0);
        x.die(0);
        due.is("restore() once more", x.restore(), 1);
        due.is("digest() behind restore() once more", x.digest(), before);
    }

    private static void whatAnImageDoesNotKeep() {
        BestBeast x = Make.underLaw("213;4");
        Make.write(x, "12");
        x.image();
        Make.write(x, "002;0");
        x.law();
        Make.write(x, "333");
        x.restore();
        int[] laws = {2, 1, 3, 4};
        for (int what = 0; what < laws.length; what++) {
            due.is("count(" + what + "), of the law kept", x.count(what), laws[what]);
        }
        due.is("count(10) behind restore()", x.count(10), 3);
        due.is("count(11) behind restore()", x.count(11), 2);
    }

    private static void numbersComeAgain() {
        BestBeast x = Make.withHolders("111;0", 1);
        x.image();
        x.holder(Make.WIDOW, 5);
        x.beast(1, 50);
        x.heir(1, 0);
        x.roll(0, 1);
        x.die(1);
        x.restore();
        due.is("holder() behind restore()", x.holder(Make.CLERK, 6), 1);
        due.is("beast() behind restore()", x.beast(0, 60), 0);
        int[] abouts = {2, 6, 1, Make.NONE, 0, 0, 1, 2, 0};
        for (int what = 0; what < abouts.length; what++) {
            due.is("about(1, " + what + ")", x.about(1, what), abouts[what]);
        }
        int[] beasts = {60, 0, Make.NONE, Make.NONE, Make.NONE};
        for (int what = 0; what < beasts.length; what++) {
            due.is("beastOf(0, " + what + ")", x.beastOf(0, what), beasts[what]);
        }
    }

    private static void counts() {
        BestBeast x = Make.withHolders("325;7", 1, 1, 1);
        Make.beasts(x, 0, 5, 90);
        Make.beasts(x, 1, 80);
        x.year();
        x.die(0);
        x.letter(50);
        int[] wants = {3, 2, 5, 7, 3, 2, 3, 1, 1, 90, 1, 1};
        for (int what = 0; what < wants.length; what++) {
            due.is("count(" + what + ")", x.count(what), wants[what]);
        }
        for (int wrong : new int[] {-1, 12, Integer.MIN_VALUE, Integer.MAX_VALUE}) {
            Make.refused(due, x, "count(" + wrong + ")", () -> x.count(wrong), Make.OUTSIDE);
        }
    }

    private static void digests() {
        BestBeast x = Make.withHolders("112;6", 3, 0, 9);
        Make.beasts(x, 0, 5, 90, 7);
        Make.beasts(x, 1, 80);
        isDigest(x, new int[0]);
        x.give(1, 1);
        x.year();
        x.roll(2, 0);
        x.die(2);
        x.letter(126);
        x.letter(1);
        isDigest(x, new int[] {126, 1});
        isDigest(x, new int[] {126, 1});
    }

    private static void isDigest(BestBeast x, int[] page) {
        long h = 827;
        for (int n = 0; n < x.count(4); n++) {
            for (int what = 0; what <= 8; what++) {
                h = 31 * h + x.about(n, what);
            }
            if (x.about(n, 2) == 1) {
                h = 31 * h + x.safe(n, 0);
                h = 31 * h + x.safe(n, 1);
                h = 31 * h + x.giving(n, 2);
                h = 31 * h + x.mean(n, 2, 0);
                h = 31 * h + x.mean(n, 2, 1);
            }
        }
        for (int n = 0; n < x.count(6); n++) {
            for (int what = 0; what <= 4; what++) {
                h = 31 * h + x.beastOf(n, what);
            }
        }
        for (int code : page) {
            h = 31 * h + code;
        }
        for (int what = 0; what <= 11; what++) {
            h = 31 * h + x.count(what);
        }
        due.is("digest()", x.digest(), h);
    }
}
