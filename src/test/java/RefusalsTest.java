import java.util.ArrayList;
import java.util.Arrays;
import java.util.List;
import java.util.Set;
import java.util.TreeSet;

/**
 * Refusals of all calls: each call with each of its edges, in scenes from nobody to as many as there may be. Of
 * several that are due the first as told by the call is answered; a refused call changes nothing.
 */
public final class RefusalsTest {
    private static final Due due = new Due("RefusalsTest");
    private static final int LEAST = Integer.MIN_VALUE;
    private static final int GREATEST = Integer.MAX_VALUE;
    private static final int[] HOLDERS = {LEAST, -2, -1, 0, 1, 2, 3, 4, GREATEST};
    private static final int[] BEASTS = {LEAST, -2, -1, 0, 1, 2, 5, 6, GREATEST};

    private static final Set<String> TWO_AT_ONCE = Set.of(
        "letter OUTSIDE FULL", "holder OUTSIDE FULL", "about UNKNOWN OUTSIDE", "as UNKNOWN OUTSIDE",
        "beast UNKNOWN OUTSIDE", "beast UNKNOWN FULL", "beast OUTSIDE STATE", "beast OUTSIDE FULL",
        "beast STATE FULL", "beastOf UNKNOWN OUTSIDE", "give UNKNOWN STATE", "safe UNKNOWN OUTSIDE",
        "safe OUTSIDE STATE", "giving UNKNOWN OUTSIDE", "giving OUTSIDE STATE", "mean UNKNOWN OUTSIDE",
        "mean OUTSIDE STATE", "roll UNKNOWN OUTSIDE", "whose UNKNOWN STATE", "manors OUTSIDE STATE");

    private final Set<String> seen = new TreeSet<>();
    private Scene scene;
    private int holders;
    private int beasts;
    private int letters;
    private final boolean[] lives = new boolean[4];
    private final int[] owner = new int[6];
    private List<String> look;
    private int restored;
    private List<String> lookRestored;

    public static void main(String[] args) {
        RefusalsTest test = new RefusalsTest();
        for (Scene scene : Scene.ALL) {
            test.enter(scene);
            for (String name : Calls.NAMES) {
                test.askAll(name, edges(name), new int[0]);
            }
        }
        due.holds("each two refusals that can be due at once were: " + test.seen, test.seen.equals(TWO_AT_ONCE));
        due.end();
    }

    private void enter(Scene next) {
        scene = next;
        BestBeast x = next.made();
        holders = x.count(4);
        beasts = x.count(6);
        letters = x.count(10);
        for (int h = 0; h < holders; h++) {
            lives[h] = x.about(h, 2) == 1;
        }
        for (int b = 0; b < beasts; b++) {
            owner[b] = x.beastOf(b, 1);
        }
        look = Look.at(x);
        restored = x.restore();
        lookRestored = Look.at(x);
    }

    private static int[] range(int least, int greatest) {
        return new int[] {LEAST, least - 1, least, greatest, greatest + 1, GREATEST};
    }

    /** The numbers that each argument of a call is asked with. */
    private static int[][] edges(String name) {
        switch (name) {
            case "letter": return new int[][] {range(1, 126)};
            case "holder": return new int[][] {range(0, 4), range(0, 9)};
            case "about": return new int[][] {HOLDERS, range(0, 8)};
            case "as": return new int[][] {HOLDERS, range(0, 4)};
            case "heir": return new int[][] {HOLDERS, HOLDERS};
            case "beast": return new int[][] {HOLDERS, range(1, 99)};
            case "beastOf": return new int[][] {BEASTS, range(0, 4)};
            case "give": return new int[][] {BEASTS, HOLDERS};
            case "die": return new int[][] {HOLDERS};
            case "safe": return new int[][] {HOLDERS, range(0, 1)};
            case "giving": return new int[][] {HOLDERS, range(1, 4)};
            case "mean": return new int[][] {HOLDERS, range(1, 4), range(0, 1)};
            case "roll": return new int[][] {BEASTS, range(-1, 1)};
            case "whose": return new int[][] {BEASTS, HOLDERS};
            case "manors": return new int[][] {range(1, 60), {LEAST, -1, 0, GREATEST}, range(0, 2)};
            case "count": return new int[][] {range(0, 11)};
            default: return new int[0][];
        }
    }

    private void askAll(String name, int[][] edges, int[] chosen) {
        if (chosen.length == edges.length) {
            ask(name, chosen);
            return;
        }
        for (int edge : edges[chosen.length]) {
            int[] more = Arrays.copyOf(chosen, chosen.length + 1);
            more[chosen.length] = edge;
            askAll(name, edges, more);
        }
    }

    private void ask(String name, int[] a) {
        List<String> refusals = new ArrayList<>();
        find(refusals, name, a);
        for (String other : refusals) {
            if (!other.equals(refusals.get(0))) {
                seen.add(name + " " + refusals.get(0) + " " + other);
            }
        }
        String call = Calls.told(name, a) + " (" + scene.name + ")";
        BestBeast x = scene.made();
        long got = Calls.made(x, name, a);
        if (refusals.isEmpty()) {
            due.holds(call + " is not refused, but answered " + got, !Calls.isRefusal(name, got));
            return;
        }
        due.is(call, got, code(refusals.get(0)));
        same("the refused " + call + " changed nothing", Look.at(x), look);
        due.is("restore() behind the refused " + call, x.restore(), restored);
        same("the refused " + call + " changed nothing in the image", Look.at(x), lookRestored);
    }

    private static void same(String what, List<String> got, List<String> want) {
        String difference = Look.difference(got, want);
        due.holds(what + ": " + difference, difference.isEmpty());
    }

    private static int code(String refusal) {
        switch (refusal) {
            case "UNKNOWN": return -101;
            case "OUTSIDE": return -102;
            case "STATE": return -103;
            default: return -104;
        }
    }

    /** Every refusal that is due, in the order in which the call tells them. */
    private void find(List<String> all, String name, int[] a) {
        switch (name) {
            case "letter": outside(all, a[0], 1, 126); when(all, letters == 8, "FULL"); break;
            case "law": when(all, !scene.hasLawOnPage, "STATE"); break;
            case "holder": outside(all, a[0], 0, 4); outside(all, a[1], 0, 9);
                when(all, holders == 4, "FULL"); break;
            case "about": holder(all, a[0]); outside(all, a[1], 0, 8); break;
            case "as": holder(all, a[0]); outside(all, a[1], 0, 4); break;
            case "heir": holder(all, a[0]); when(all, a[1] != -1 && !isHolder(a[1]), "UNKNOWN");
                when(all, a[0] == a[1], "UNKNOWN"); break;
            case "beast": holder(all, a[0]); outside(all, a[1], 1, 99); dead(all, a[0]);
                when(all, beasts == 6, "FULL"); break;
            case "beastOf": beast(all, a[0]); outside(all, a[1], 0, 4); break;
            case "give": beast(all, a[0]); holder(all, a[1]); gift(all, a[0], a[1]); dead(all, a[1]); break;
            case "die": holder(all, a[0]); dead(all, a[0]); break;
            case "safe": holder(all, a[0]); outside(all, a[1], 0, 1); dead(all, a[0]); break;
            case "giving": holder(all, a[0]); outside(all, a[1], 1, 4); dead(all, a[0]); break;
            case "mean": holder(all, a[0]); outside(all, a[1], 1, 4); outside(all, a[2], 0, 1);
                dead(all, a[0]); break;
            case "roll": beast(all, a[0]); outside(all, a[1], -1, 1); break;
            case "whose": beast(all, a[0]); holder(all, a[1]); dead(all, a[1]); break;
            case "manors": outside(all, a[0], 1, 60); when(all, a[1] < 0, "OUTSIDE"); outside(all, a[2], 0, 2);
                when(all, holders == 0, "STATE"); break;
            case "restore": when(all, !scene.hasImage, "STATE"); break;
            case "count": outside(all, a[0], 0, 11); break;
            default: break;
        }
    }

    private static void when(List<String> all, boolean so, String refusal) {
        if (so) {
            all.add(refusal);
        }
    }

    private static void outside(List<String> all, int number, int least, int greatest) {
        when(all, number < least || number > greatest, "OUTSIDE");
    }

    private boolean isHolder(int number) {
        return number >= 0 && number < holders;
    }

    private boolean isBeast(int number) {
        return number >= 0 && number < beasts;
    }

    private void holder(List<String> all, int number) {
        when(all, !isHolder(number), "UNKNOWN");
    }

    private void beast(List<String> all, int number) {
        when(all, !isBeast(number), "UNKNOWN");
    }

    private void dead(List<String> all, int number) {
        when(all, isHolder(number) && !lives[number], "STATE");
    }

    private void gift(List<String> all, int beast, int to) {
        boolean isGone = isBeast(beast) && owner[beast] == -1;
        boolean isHis = isBeast(beast) && isHolder(to) && owner[beast] == to;
        when(all, isGone || isHis, "STATE");
    }
}
