import java.util.List;

/** The calls of the face by their names, for tests that choose among them. */
final class Calls {
    /** An object is used for so many calls; what later ones answer is free. */
    static final int MOST = 512;

    static final List<String> NAMES = List.of("letter", "blank", "fault", "law", "holder", "about", "as", "heir",
        "beast", "beastOf", "give", "die", "year", "safe", "giving", "mean", "roll", "whose", "manors", "image",
        "restore", "count", "digest");

    private Calls() {
    }

    static long made(BestBeast x, String name, int... a) {
        switch (name) {
            case "letter": return x.letter(a[0]);
            case "blank": return x.blank();
            case "fault": return x.fault();
            case "law": return x.law();
            case "holder": return x.holder(a[0], a[1]);
            case "about": return x.about(a[0], a[1]);
            case "as": return x.as(a[0], a[1]);
            case "heir": return x.heir(a[0], a[1]);
            case "beast": return x.beast(a[0], a[1]);
            case "beastOf": return x.beastOf(a[0], a[1]);
            case "give": return x.give(a[0], a[1]);
            case "die": return x.die(a[0]);
            case "year": return x.year();
            case "safe": return x.safe(a[0], a[1]);
            case "giving": return x.giving(a[0], a[1]);
            case "mean": return x.mean(a[0], a[1], a[2]);
            case "roll": return x.roll(a[0], a[1]);
            case "whose": return x.whose(a[0], a[1]);
            case "manors": return x.manors(a[0], a[1], a[2]);
            case "image": return x.image();
            case "restore": return x.restore();
            case "count": return x.count(a[0]);
            case "digest": return x.digest();
            default: throw new IllegalArgumentException(name);
        }
    }

    static int parameters(String name) {
        switch (name) {
            case "blank": case "fault": case "law": case "year": case "image": case "restore": case "digest":
                return 0;
            case "letter": case "die": case "count":
                return 1;
            case "mean": case "manors":
                return 3;
            default:
                return 2;
        }
    }

    static boolean isRefusal(String name, long answer) {
        return !name.equals("digest") && answer <= BestBeast.UNKNOWN && answer >= BestBeast.FULL;
    }

    static String told(String name, int... a) {
        StringBuilder told = new StringBuilder(name).append('(');
        for (int i = 0; i < a.length; i++) {
            told.append(i == 0 ? "" : ", ").append(a[i]);
        }
        return told.append(')').toString();
    }
}
