import java.util.ArrayList;
import java.util.List;
import java.util.Random;

/**
 * Runs of calls by chance: what would be is held against what is, when it is done on another object
 * on which the same calls were made.
 */
public final class RandomRunsTest {
    private static final Due due = new Due("RandomRunsTest");
    private static final int RUNS = 400;
    private static final int CALLS = 60;
    private final Random random;
    private final List<Call> calls = new ArrayList<>();
    private final BestBeast x = new BestBeast();
    private Seen seen;

    private static final class Call {
        final String name;
        final int[] told;

        Call(String name, int[] told) {
            this.name = name;
            this.told = told;
        }
    }

    /** What an object tells of holders, beasts and all, asked once: it is used for 512 calls at most. */
    private static final class Seen {
        private final int[][] abouts;
        private final int[][] beasts;
        private final int[] counts = new int[12];

        Seen(BestBeast of) {
            for (int what = 0; what < counts.length; what++) {
                counts[what] = of.count(what);
            }
            abouts = new int[counts[4]][9];
            for (int h = 0; h < abouts.length; h++) {
                for (int what = 0; what < 9; what++) {
                    abouts[h][what] = of.about(h, what);
                }
            }
            beasts = new int[counts[6]][5];
            for (int b = 0; b < beasts.length; b++) {
                for (int what = 0; what < 5; what++) {
                    beasts[b][what] = of.beastOf(b, what);
                }
            }
        }

        int count(int what) {
            return counts[what];
        }

        int about(int holder, int what) {
            return abouts[holder][what];
        }

        int beastOf(int beast, int what) {
            return beasts[beast][what];
        }
    }

    private RandomRunsTest(long seed) {
        random = new Random(seed);
    }

    public static void main(String[] args) {
        for (int run = 0; run < RUNS; run++) {
            RandomRunsTest test = new RandomRunsTest(run);
            test.start();
            test.goOn();
            test.hold();
        }
        for (int run = 0; run < RUNS; run++) {
            new RandomRunsTest(-1 - run).anything();
        }
        due.end();
    }

    private void call(String name, int... told) {
        calls.add(new Call(name, told));
        Calls.made(x, name, told);
    }

    /** A new object on which all calls of this run were made. */
    private BestBeast again() {
        BestBeast other = new BestBeast();
        for (Call c : calls) {
            Calls.made(other, c.name, c.told);
        }
        return other;
    }

    private void start() {
        String law = "" + random.nextInt(4) + random.nextInt(4) + random.nextInt(6) + ";" + random.nextInt(10);
        for (int i = 0; i < law.length(); i++) {
            call("letter", law.charAt(i));
        }
        call("law");
        int holders = 1 + random.nextInt(4);
        for (int h = 0; h < holders; h++) {
            call("holder", random.nextInt(5), random.nextInt(10));
        }
        int beasts = random.nextInt(7);
        for (int b = 0; b < beasts; b++) {
            call("beast", random.nextInt(holders), 1 + random.nextInt(random.nextBoolean() ? 12 : 99));
        }
    }

    private void goOn() {
        String[] names = {"give", "give", "give", "give", "year", "heir", "roll", "die", "beast", "image", "restore"};
        int many = random.nextInt(25);
        for (int i = 0; i < many; i++) {
            String name = names[random.nextInt(names.length)];
            if (name.equals("die") && random.nextInt(3) > 0) {
                continue;
            }
            int first = random.nextInt(6);
            boolean ofHolder = name.equals("heir") || name.equals("beast") || name.equals("die");
            int second = name.equals("roll") ? random.nextInt(3) - 1
                : name.equals("beast") ? 1 + random.nextInt(30) : random.nextInt(4);
            call(name, ofHolder ? first % 4 : first, second);
        }
    }

    /** All that the terms tell of what would be, on the object as it is now. */
    private void hold() {
        seen = new Seen(x);
        for (int h = 0; h < seen.count(4); h++) {
            holdBits(h);
            if (seen.about(h, 2) == 0) {
                due.is("loss of a dead one", seen.about(h, 8), 0);
                continue;
            }
            holdLoss(h);
            holdSafe(h);
            for (int years = 1; years <= 4; years++) {
                holdGiving(h, years);
            }
            for (int b = 0; b < seen.count(6); b++) {
                holdWhose(b, h);
            }
        }
        if (seen.count(4) > 0) {
            holdManors(1 + random.nextInt(12), random.nextInt(Integer.MAX_VALUE));
        }
    }

    private void holdBits(int h) {
        int own = 0;
        int held = 0;
        for (int b = 0; b < seen.count(6); b++) {
            boolean his = seen.beastOf(b, 1) == h;
            boolean stillVoid = seen.beastOf(b, 2) == h && seen.count(8) - seen.beastOf(b, 3) < seen.count(2);
            own |= his ? 1 << b : 0;
            held |= his || stillVoid ? 1 << b : 0;
        }
        due.is("about(h, 4)", seen.about(h, 4), own);
        due.is("about(h, 5)", seen.about(h, 5), held);
    }

    private void holdLoss(int h) {
        BestBeast other = again();
        int before = other.count(9);
        int loss = seen.about(h, 8);
        due.is("die() takes LOSS", other.die(h), loss);
        due.is("count(9) rises by LOSS", other.count(9) - before, loss);
        due.is("what was his is his heir's, or gone", other.about(h, 4), 0);
        due.is("loss of a dead one", other.about(h, 8), 0);
    }

    /**
     * A new object with the same law, holders (all alive) and beasts, and whose they are as told, with the
     * gifts that were made of them but for those told to be given by nobody. No beast may be gone.
     */
    private BestBeast rebuilt(int[] owners, boolean[] ungiven) {
        BestBeast y = Make.underLaw("" + seen.count(0) + seen.count(1) + seen.count(2) + ";" + seen.count(3));
        for (int h = 0; h < seen.count(4); h++) {
            y.holder(seen.about(h, 0), seen.about(h, 1));
        }
        for (int b = 0; b < owners.length; b++) {
            boolean given = seen.beastOf(b, 2) != Make.NONE && !ungiven[b];
            y.beast(given ? seen.beastOf(b, 2) : owners[b], seen.beastOf(b, 0));
        }
        for (int year = 0; year <= seen.count(8); year++) {
            for (int b = 0; b < owners.length; b++) {
                if (seen.beastOf(b, 3) == year && !ungiven[b]) {
                    y.give(b, owners[b]);
                }
            }
            if (year < seen.count(8)) {
                y.year();
            }
        }
        return y;
    }

    private int[] owners() {
        int[] owners = new int[seen.count(6)];
        for (int b = 0; b < owners.length; b++) {
            owners[b] = seen.beastOf(b, 1);
        }
        return owners;
    }

    private boolean anyGone(int[] owners) {
        for (int owner : owners) {
            if (owner == Make.NONE) {
                return true;
            }
        }
        return false;
    }

    private void holdSafe(int h) {
        int[] owners = owners();
        if (seen.count(4) < 2 || anyGone(owners)) {
            return;
        }
        int other = h == 0 ? 1 : 0;
        int own = seen.about(h, 4);
        int few = Make.NONE;
        int which = Make.NONE;
        for (int bits = 0; bits < 64; bits++) {
            if ((bits & ~own) != 0) {
                continue;
            }
            int[] to = owners.clone();
            boolean[] ungiven = new boolean[owners.length];
            for (int b = 0; b < to.length; b++) {
                if ((bits >> b & 1) == 1) {
                    to[b] = other;
                    ungiven[b] = true;
                }
            }
            boolean safe = rebuilt(to, ungiven).about(h, 8) == 0;
            if (safe && (few == Make.NONE || Integer.bitCount(bits) < few)) {
                few = Integer.bitCount(bits);
                which = bits;
            }
        }
        due.is("safe(h, 0)", x.safe(h, 0), few);
        due.is("safe(h, 1)", x.safe(h, 1), which);
    }

    /** Gives what the bits tell to another one who lives, or NONE, if there is no other one. */
    private static int gaveAway(BestBeast on, int h, int bits) {
        int to = Make.NONE;
        for (int other = 0; other < on.count(4); other++) {
            to = other != h && on.about(other, 2) == 1 ? other : to;
        }
        for (int b = 0; to != Make.NONE && b < on.count(6); b++) {
            if ((bits >> b & 1) == 1) {
                on.give(b, to);
            }
        }
        return to;
    }

    private void holdGiving(int h, int years) {
        int own = seen.about(h, 4);
        double least = Double.MAX_VALUE;
        int best = 0;
        for (int bits = 0; bits < 64; bits++) {
            if ((bits & ~own) != 0) {
                continue;
            }
            BestBeast other = again();
            if (gaveAway(other, h, bits) == Make.NONE) {
                return;
            }
            double mean = 0;
            double alive = 1;
            for (int y = 0; y < years; y++) {
                double dies = seen.about(h, 1) / 10.0;
                mean += alive * dies * other.about(h, 8);
                alive *= 1 - dies;
                other.year();
            }
            boolean same = Math.abs(mean - least) < 1e-7;
            if (!same && mean < least || same && Integer.bitCount(bits) < Integer.bitCount(best)) {
                least = mean;
                best = bits;
            }
        }
        due.is("giving(h, " + years + ")", x.giving(h, years), best);
        int above = x.mean(h, years, 0);
        int below = x.mean(h, years, 1);
        due.holds("mean " + above + "/" + below + " is " + least, Math.abs(least - (double) above / below) < 1e-7);
        for (int d = 2; d <= below; d++) {
            if (below % d == 0 && above % d == 0) {
                due.holds("mean " + above + "/" + below + " is in lowest terms", false);
            }
        }
    }

    private void holdWhose(int beast, int dying) {
        int[] owners = owners();
        owners[beast] = 0;
        if (seen.count(4) < 2 || anyGone(owners)) {
            return;
        }
        int can = 0;
        for (int h = 0; h < seen.count(4); h++) {
            if (seen.about(h, 2) == 0) {
                continue;
            }
            owners[beast] = h;
            boolean[] ungiven = new boolean[owners.length];
            ungiven[beast] = true;
            BestBeast y = rebuilt(owners, ungiven);
            y.heir(dying, dying == 0 ? 1 : 0);
            y.die(dying);
            boolean so = true;
            for (int b = 0; b < owners.length; b++) {
                int told = seen.beastOf(b, 4);
                int taken = y.beastOf(b, 1) == Make.NONE ? 1 : 0;
                so &= told == Make.NONE || told == taken;
            }
            can |= so ? 1 << h : 0;
        }
        due.is("whose(" + beast + ", " + dying + ")", x.whose(beast, dying), can);
    }

    private void holdManors(int years, int seed) {
        BestBeast other = again();
        long next = seed;
        int before = other.count(9);
        for (int y = 0; y < years; y++) {
            for (int h = 0; h < other.count(4); h++) {
                if (other.about(h, 2) == 1) {
                    next = (1103515245L * next + 12345L) % (1L << 31);
                    if (next / 65536 % 10 < other.about(h, 1)) {
                        other.die(h);
                    }
                }
            }
            if (other.count(6) > 0) {
                next = (1103515245L * next + 12345L) % (1L << 31);
                int beast = (int) (next / 65536 % other.count(6));
                next = (1103515245L * next + 12345L) % (1L << 31);
                other.give(beast, (int) (next / 65536 % other.count(4)));
            }
            other.year();
        }
        String told = "manors(" + years + ", " + seed + ", ";
        due.is(told + "0)", x.manors(years, seed, 0), other.count(9) - before);
        due.is(told + "1)", x.manors(years, seed, 1), other.count(5));
        due.is(told + "2)", x.manors(years, seed, 2), next);
    }

    /** Any calls with any numbers: none throws, and those that ask, or are refused, change nothing. */
    private void anything() {
        int[] far = {Integer.MIN_VALUE, Integer.MIN_VALUE + 1, -105, -2, 7, 64, 127, Integer.MAX_VALUE};
        List<String> asking = List.of("fault", "about", "as", "beastOf", "safe", "giving", "mean", "whose", "manors",
            "image", "count", "digest");
        if (random.nextInt(4) > 0) {
            start();
        }
        for (int i = 0; i < CALLS; i++) {
            String name = Calls.NAMES.get(random.nextInt(Calls.NAMES.size()));
            int[] told = new int[Calls.parameters(name)];
            for (int a = 0; a < told.length; a++) {
                told[a] = random.nextInt(6) == 0 ? far[random.nextInt(far.length)] : random.nextInt(7) - 1;
            }
            calls.add(new Call(name, told));
            long before = x.digest();
            long got = Calls.made(x, name, told);
            if (Calls.isRefusal(name, got) || asking.contains(name)) {
                due.is("digest() behind " + Calls.told(name, told), x.digest(), before);
            }
        }
        due.is("the same calls answer the same", again().digest(), x.digest());
    }
}
