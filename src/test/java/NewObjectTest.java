/** Promise 1: a new object. */
public final class NewObjectTest {
    public static void main(String[] args) {
        Due due = new Due("NewObjectTest");
        BestBeast x = new BestBeast();
        int[] counts = {1, 1, 1, 0, 0, 0, 0, 0, 0, 0, 0, 0};
        long h = 827;
        for (int what = 0; what < counts.length; what++) {
            due.is("count(" + what + ")", x.count(what), counts[what]);
            h = 31 * h + counts[what];
        }
        due.is("digest()", x.digest(), h);
        due.is("restore()", x.restore(), BestBeast.STATE);
        due.is("fault()", x.fault(), 0);
        due.is("manors(1, 0, 0)", x.manors(1, 0, 0), BestBeast.STATE);
        due.is("about(0, 0)", x.about(0, 0), BestBeast.UNKNOWN);
        due.is("beastOf(0, 0)", x.beastOf(0, 0), BestBeast.UNKNOWN);
        due.end();
    }
}
