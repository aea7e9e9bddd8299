import java.math.BigInteger;
import java.util.ArrayList;
import java.util.Arrays;
import java.util.List;

/** Promise 24: the digest, number by number, whose sum wraps as a long does. */
public final class DigestTest {
    private static final Due due = new Due("DigestTest");
    private static final BigInteger TWO_TO_64 = BigInteger.ONE.shiftLeft(64);

    // worked out by Plain, not by the program
    private static final long NEW_OBJECT = 5787334158101892090L;
    private static final long[] OF_SCENES = {NEW_OBJECT, -4962351623943991664L, 6345085966173055391L,
        -7726973007113409319L, 4047033209980471397L};
    private static final long WITH_GIVING = -272910439905047219L;
    private static final long WITH_NONE = -677985931677377664L;

    public static void main(String[] args) {
        ofNothing();
        asNumbersOfAnyLength();
        theSumWraps();
        eachPartIsInIt();
        givingAndMeanAreOfTwoYears();
        theDeadTellNothingOfWhatWouldBe();
        lettersByTheirCodes();
        noneIsALongBelowNothing();
        itChangesNothing();
        due.end();
    }

    private static BigInteger sum(List<Integer> numbers) {
        BigInteger h = BigInteger.valueOf(827);
        for (int number : numbers) {
            h = h.multiply(BigInteger.valueOf(31)).add(BigInteger.valueOf(number));
        }
        return h;
    }

    private static long wrapped(BigInteger sum) {
        BigInteger rest = sum.mod(TWO_TO_64);
        return (rest.testBit(63) ? rest.subtract(TWO_TO_64) : rest).longValueExact();
    }

    /** The numbers of the digest, in order, as the calls tell them; the page is as told. */
    private static List<Integer> numbers(BestBeast x, int... page) {
        List<Integer> all = new ArrayList<>();
        int holders = x.count(4);
        int beasts = x.count(6);
        for (int h = 0; h < holders; h++) {
            for (int what = 0; what <= 8; what++) {
                all.add(x.about(h, what));
            }
            if (x.about(h, 2) == 1) {
                all.addAll(List.of(x.safe(h, 0), x.safe(h, 1), x.giving(h, 2), x.mean(h, 2, 0), x.mean(h, 2, 1)));
            }
        }
        for (int b = 0; b < beasts; b++) {
            for (int what = 0; what <= 4; what++) {
                all.add(x.beastOf(b, what));
            }
        }
        for (int code : page) {
            all.add(code);
        }
        for (int what = 0; what <= 11; what++) {
            all.add(x.count(what));
        }
        return all;
    }

    private static void isDigest(String of, BestBeast x, int... page) {
        due.is("digest(), " + of, x.digest(), wrapped(sum(numbers(x, page))));
    }

    private static void ofNothing() {
        BestBeast x = new BestBeast();
        due.is("digest() of a new object", x.digest(), NEW_OBJECT);
        isDigest("of a new object", x);
    }

    private static void asNumbersOfAnyLength() {
        int[][] pages = {{}, {49}, {'3', '2', '5', ';', '9'}, {'3', ';', '0', ';', '1', 1, 126, '9'},
            {'1', '1', '1', ';', '0', '1', '1', '1'}};
        for (int i = 0; i < pages.length; i++) {
            Scene scene = Scene.ALL.get(i);
            isDigest(scene.name, scene.made(), pages[i]);
            due.is("digest(), " + scene.name, scene.made().digest(), OF_SCENES[i]);
        }
    }

    private static void theSumWraps() {
        boolean below = false;
        boolean above = false;
        for (int years = 0; years < 40; years++) {
            BestBeast x = new BestBeast();
            Make.years(x, years);
            BigInteger sum = sum(numbers(x));
            due.holds("the sum is longer than a long", sum.bitLength() > 64);
            long digest = x.digest();
            due.is("digest() in YEAR " + years, digest, wrapped(sum));
            below |= digest < 0;
            above |= digest > 0;
        }
        for (int worth = 1; worth <= 99; worth++) {
            BestBeast x = Make.withHolders("111;0", 5);
            x.beast(0, worth);
            long digest = x.digest();
            due.is("digest(), WORTH " + worth, digest, wrapped(sum(numbers(x))));
            below |= digest < 0;
            above |= digest > 0;
        }
        due.holds("some are below nothing", below);
        due.holds("some are above nothing", above);
    }

    private static BestBeast parts() {
        BestBeast x = Make.withHolders("111;0", 5, 6);
        Make.beasts(x, 0, 30, 20);
        return x;
    }

    private static void differs(String what, BestBeast changed) {
        due.holds("another digest() by " + what, changed.digest() != parts().digest());
        isDigest("by " + what, changed);
    }

    private static void eachPartIsInIt() {
        isDigest("of some parts", parts());
        BestBeast x = parts();
        x.heir(0, 1);
        differs("an HEIR", x);
        x = parts();
        x.roll(0, 0);
        differs("what is told in the ROLLS", x);
        x = parts();
        x.year();
        differs("the YEAR", x);
        x = parts();
        Make.write(x, "111;0");
        x.law();
        differs("how often a LAW was read", x);
        x = parts();
        x.give(0, 1);
        differs("a GIFT", x);
        x = parts();
        x.die(1);
        differs("a DEATH", x);
        x = parts();
        x.holder(0, 0);
        differs("a HOLDER", x);
        x = parts();
        x.beast(1, 1);
        differs("a BEAST", x);
    }

    private static void givingAndMeanAreOfTwoYears() {
        BestBeast x = Make.withHolders("101;0", 5, 3, 0, 9);
        Make.beasts(x, 0, 30, 20);
        Make.beasts(x, 1, 7);
        Make.beasts(x, 2, 99);
        due.is("GIVING for 1", x.giving(0, 1), 0);
        due.is("GIVING for 2", x.giving(0, 2), 0b11);
        due.is("GIVING for 2 of the second", x.giving(1, 2), 0b100);
        isDigest("with what is best given", x);
        due.is("digest() with what is best given", x.digest(), WITH_GIVING);
        BestBeast y = Make.withHolders("102;0", 4);
        Make.beasts(y, 0, 15);
        due.is("MEAN of 2, above", y.mean(0, 2, 0), 48);
        due.is("MEAN of 2, below", y.mean(0, 2, 1), 5);
        isDigest("with a MEAN that is no whole number", y);
    }

    private static void theDeadTellNothingOfWhatWouldBe() {
        BestBeast x = parts();
        x.die(0);
        List<Integer> numbers = numbers(x);
        due.is("how many numbers, one dead, one alive", numbers.size(), 9 + 14 + 2 * 5 + 12);
        isDigest("one dead", x);
        x.die(1);
        due.is("how many numbers, both dead", numbers(x).size(), 9 + 9 + 2 * 5 + 12);
        isDigest("both dead", x);
    }

    private static void lettersByTheirCodes() {
        int[] codes = {1, 126, 48, 57, 59, 1, 1, 126};
        BestBeast x = new BestBeast();
        int[] page = new int[0];
        for (int code : codes) {
            x.letter(code);
            page = Arrays.copyOf(page, page.length + 1);
            page[page.length - 1] = code;
            isDigest(page.length + " letters", x, page);
        }
        x.blank();
        due.is("digest() of a page that is empty again", x.digest(), new BestBeast().digest());
        BestBeast y = new BestBeast();
        y.letter(126);
        y.letter(1);
        BestBeast z = new BestBeast();
        z.letter(1);
        z.letter(126);
        due.holds("letters are told in their order", y.digest() != z.digest());
    }

    private static void noneIsALongBelowNothing() {
        BestBeast x = Make.withHolders("105;0", 5, 5);
        Make.beasts(x, 0, 30, 20);
        x.give(0, 1);
        due.is("SAFE", x.safe(0, 1), Make.NONE);
        due.is("HEIR", x.about(0, 3), Make.NONE);
        due.is("who gave it", x.beastOf(1, 2), Make.NONE);
        isDigest("with NONE", x);
        due.is("digest() with NONE", x.digest(), WITH_NONE);
    }

    private static void itChangesNothing() {
        for (Scene scene : Scene.ALL) {
            BestBeast x = scene.made();
            long first = x.digest();
            for (int often = 0; often < 5; often++) {
                due.is("digest() again, " + scene.name, x.digest(), first);
            }
            String changed = Look.difference(Look.at(x), Look.at(scene.made()));
            due.holds("digest() changed nothing, " + scene.name + ": " + changed, changed.isEmpty());
        }
    }
}
