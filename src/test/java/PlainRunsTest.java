import java.util.Random;

/**
 * Whole runs of calls by chance, as long as an object is used, each answer held against that of the document
 * told a second time (Plain). Many arguments are edges; many calls are refused.
 */
public final class PlainRunsTest {
    private static final Due due = new Due("PlainRunsTest");
    private static final int RUNS = 160;
    private static final int[] EDGES = {Integer.MIN_VALUE, Integer.MIN_VALUE + 1, -106, -2, -1, 0, 1, 4, 5, 6, 8, 9,
        10, 11, 12, 60, 61, 99, 100, 126, 127, 255, 256, 65536, Integer.MAX_VALUE};

    private final Random random;
    private final BestBeast x = new BestBeast();
    private final Plain plain = new Plain();
    private final String run;
    private int calls = 0;

    private PlainRunsTest(int seed) {
        random = new Random(seed);
        run = "run " + seed;
    }

    public static void main(String[] args) {
        for (int seed = 0; seed < RUNS; seed++) {
            PlainRunsTest test = new PlainRunsTest(seed);
            if (seed % 4 > 0) {
                test.start();
            }
            while (test.calls < Calls.MOST - 1) {
                test.goOn();
            }
            test.call("digest");
        }
        due.end();
    }

    private void call(String name, int... a) {
        if (calls >= Calls.MOST) {
            return;
        }
        calls++;
        due.is(run + ", call " + calls + ", " + Calls.told(name, a), Calls.made(x, name, a), plain.call(name, a));
    }

    private void start() {
        writeLaw();
        call("law");
        int holders = 1 + random.nextInt(4);
        for (int h = 0; h < holders; h++) {
            call("holder", random.nextInt(5), random.nextInt(10));
        }
        int beasts = random.nextInt(7);
        int greatest = random.nextBoolean() ? 12 : 99;
        for (int b = 0; b < beasts; b++) {
            call("beast", random.nextInt(holders), 1 + random.nextInt(greatest));
        }
    }

    private void writeLaw() {
        call("blank");
        int[] law = {48 + random.nextInt(4), 48 + random.nextInt(4), 48 + random.nextInt(6), 59,
            48 + random.nextInt(10)};
        for (int letter : law) {
            call("letter", letter);
        }
    }

    private void goOn() {
        int kind = random.nextInt(100);
        if (kind < 2) {
            writeLaw();
            call("law");
        } else if (kind < 35) {
            String[] changing = {"give", "give", "give", "year", "heir", "roll", "roll", "beast", "holder", "image"};
            callFit(changing[random.nextInt(changing.length)]);
        } else if (kind < 38) {
            callFit(random.nextBoolean() ? "die" : "restore");
        } else if (kind < 70) {
            String[] asking = {"about", "beastOf", "safe", "giving", "mean", "mean", "whose", "manors", "digest"};
            callFit(asking[random.nextInt(asking.length)]);
        } else {
            callAny(Calls.NAMES.get(random.nextInt(Calls.NAMES.size())));
        }
    }

    /** A call whose numbers are mostly within what the document tells. */
    private void callFit(String name) {
        int[] a = new int[Calls.parameters(name)];
        for (int i = 0; i < a.length; i++) {
            a[i] = random.nextInt(6);
        }
        if (name.equals("manors")) {
            a = new int[] {1 + random.nextInt(60), random.nextInt(Integer.MAX_VALUE), random.nextInt(3)};
        } else if (name.equals("mean")) {
            a[2] = random.nextInt(2);
        } else if (name.equals("roll") || name.equals("heir")) {
            a[1] = random.nextInt(name.equals("roll") ? 3 : 5) - 1;
        } else if (name.equals("beast")) {
            a[1] = 1 + random.nextInt(30);
        }
        call(name, a);
    }

    private void callAny(String name) {
        // most deaths are spared, or little is left to be told of
        if (name.equals("die") && random.nextInt(3) > 0) {
            return;
        }
        int[] a = new int[Calls.parameters(name)];
        for (int i = 0; i < a.length; i++) {
            a[i] = random.nextInt(3) == 0 ? EDGES[random.nextInt(EDGES.length)] : random.nextInt(8) - 1;
        }
        call(name, a);
    }
}
