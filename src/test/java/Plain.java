import java.math.BigDecimal;
import java.math.BigInteger;
import java.util.ArrayList;
import java.util.List;

/**
 * The document told a second time, as plainly as a test may tell it: what would be is done on a copy of all,
 * a refusal is thrown, a mean is an exact decimal, the digest a whole number of any length.
 */
final class Plain {
    private static final String[] LETTERS_OF_A_LAW = {"0123", "0123", "012345", ";", "0123456789"};
    private static final BigInteger TWO_TO_64 = BigInteger.ONE.shiftLeft(64);

    private World now = new World();
    private World kept = null;
    private String page = "";
    private int lawsRead = 0;

    /** What a call answers: a refusal, too. */
    long call(String name, int... a) {
        try {
            return answer(name, a);
        } catch (Refusal refusal) {
            return refusal.code;
        }
    }

    private static final class Refusal extends RuntimeException {
        private static final long serialVersionUID = 1;
        private final int code;

        Refusal(int code) {
            this.code = code;
        }
    }

    private static void refuse(boolean when, int code) {
        if (when) {
            throw new Refusal(code);
        }
    }

    private static void range(int number, int least, int greatest) {
        refuse(number < least || number > greatest, BestBeast.OUTSIDE);
    }

    private Holder holder(int number) {
        refuse(number < 0 || number >= now.holders.size(), BestBeast.UNKNOWN);
        return now.holders.get(number);
    }

    private Beast beast(int number) {
        refuse(number < 0 || number >= now.beasts.size(), BestBeast.UNKNOWN);
        return now.beasts.get(number);
    }

    private static void lives(Holder holder) {
        refuse(!holder.lives, BestBeast.STATE);
    }

    private long answer(String name, int[] a) {
        switch (name) {
            case "letter": return letter(a[0]);
            case "blank": return blank();
            case "fault": return fault();
            case "law": return law();
            case "holder": return newHolder(a[0], a[1]);
            case "about": return about(holder(a[0]), a[1]);
            case "as": return as(holder(a[0]), a[1]);
            case "heir": return heir(holder(a[0]), a[1]);
            case "beast": return newBeast(holder(a[0]), a[1]);
            case "beastOf": return beastOf(beast(a[0]), a[1]);
            case "give": return give(beast(a[0]), holder(a[1]));
            case "die": return die(holder(a[0]));
            case "year": return ++now.year;
            case "safe": return safe(holder(a[0]), a[1]);
            case "giving": return giving(holder(a[0]), a[1]);
            case "mean": return mean(holder(a[0]), a[1], a[2]);
            case "roll": return roll(beast(a[0]), a[1]);
            case "whose": return whose(beast(a[0]), holder(a[1]));
            case "manors": return manors(a[0], a[1], a[2]);
            case "image": return image();
            case "restore": return restore();
            case "count": return count(a[0]);
            case "digest": return digest();
            default: throw new IllegalArgumentException(name);
        }
    }

    private int letter(int code) {
        range(code, 1, 126);
        refuse(page.length() >= 8, BestBeast.FULL);
        page += (char) code;
        return page.length();
    }

    private int blank() {
        int had = page.length();
        page = "";
        return had;
    }

    private int fault() {
        int place = 0;
        while (place < page.length() && place < 5 && LETTERS_OF_A_LAW[place].indexOf(page.charAt(place)) >= 0) {
            place++;
        }
        return place;
    }

    private int law() {
        refuse(!page.matches("[0-3][0-3][0-5];[0-9]"), BestBeast.STATE);
        now.law = page;
        page = "";
        return ++lawsRead;
    }

    private int newHolder(int kind, int death) {
        range(kind, 0, 4);
        range(death, 0, 9);
        refuse(now.holders.size() == 4, BestBeast.FULL);
        now.holders.add(new Holder(now.holders.size(), kind, death));
        return now.holders.size() - 1;
    }

    private int about(Holder of, int what) {
        range(what, 0, 8);
        int[] all = {of.kind, of.death, of.lives ? 1 : 0, of.heir, bits(now.his(of.number)), bits(now.held(of.number)),
            now.lordMay(of), now.churchMay(of), now.loss(of)};
        return all[what];
    }

    private static int bits(List<Beast> beasts) {
        int bits = 0;
        for (Beast b : beasts) {
            bits += 1 << b.number;
        }
        return bits;
    }

    private int as(Holder of, int kind) {
        range(kind, 0, 4);
        boolean such = kind == 0 || kind == of.kind || kind == 3 && of.kind == 4;
        return such ? of.number : BestBeast.NONE;
    }

    private int heir(Holder of, int heir) {
        if (heir != BestBeast.NONE) {
            refuse(holder(heir) == of, BestBeast.UNKNOWN);
        }
        int before = of.heir;
        of.heir = heir;
        return before;
    }

    private int newBeast(Holder of, int worth) {
        range(worth, 1, 99);
        lives(of);
        refuse(now.beasts.size() == 6, BestBeast.FULL);
        now.beasts.add(new Beast(now.beasts.size(), worth, of.number));
        return now.beasts.size() - 1;
    }

    private int beastOf(Beast of, int what) {
        range(what, 0, 4);
        return new int[] {of.worth, of.owner, of.giver, of.givenIn, of.told}[what];
    }

    private int give(Beast gift, Holder to) {
        refuse(gift.owner == BestBeast.NONE || gift.owner == to.number || !to.lives, BestBeast.STATE);
        int before = gift.owner;
        gift.goTo(to.number, before, now.year);
        return before;
    }

    private int die(Holder who) {
        lives(who);
        return now.death(who.number);
    }

    private int safe(Holder of, int what) {
        range(what, 0, 1);
        lives(of);
        int best = BestBeast.NONE;
        for (int bits = 0; bits < 64; bits++) {
            if ((bits & ~bits(now.his(of.number))) != 0) {
                continue;
            }
            World then = now.copy();
            for (Beast b : then.beasts) {
                if ((bits >> b.number & 1) == 1) {
                    b.goTo(World.ANOTHER, BestBeast.NONE, BestBeast.NONE);
                }
            }
            boolean fewer = best == BestBeast.NONE || Integer.bitCount(bits) < Integer.bitCount(best);
            if (then.loss(of) == 0 && fewer) {
                best = bits;
            }
        }
        return what == 1 || best == BestBeast.NONE ? best : Integer.bitCount(best);
    }

    private int giving(Holder of, int years) {
        range(years, 1, 4);
        lives(of);
        int best = 0;
        for (int bits = 1; bits < 64; bits++) {
            if ((bits & ~bits(now.his(of.number))) != 0) {
                continue;
            }
            int less = meanOf(of, years, bits).compareTo(meanOf(of, years, best));
            if (less < 0 || less == 0 && Integer.bitCount(bits) < Integer.bitCount(best)) {
                best = bits;
            }
        }
        return best;
    }

    private BigDecimal meanOf(Holder of, int years, int gifts) {
        World then = now.copy();
        for (Beast b : then.beasts) {
            if ((gifts >> b.number & 1) == 1) {
                b.goTo(World.ANOTHER, of.number, then.year);
            }
        }
        return meanFrom(then, of, years);
    }

    private static BigDecimal meanFrom(World then, Holder of, int years) {
        if (years == 0) {
            return BigDecimal.ZERO;
        }
        BigDecimal dies = BigDecimal.valueOf(of.death, 1);
        BigDecimal lost = dies.multiply(BigDecimal.valueOf(then.loss(of)));
        then.year++;
        return lost.add(BigDecimal.ONE.subtract(dies).multiply(meanFrom(then, of, years - 1)));
    }

    private int mean(Holder of, int years, int part) {
        range(years, 1, 4);
        range(part, 0, 1);
        lives(of);
        BigDecimal mean = meanOf(of, years, giving(of, years));
        BigInteger below = BigInteger.TEN.pow(Math.max(0, mean.scale()));
        BigInteger above = mean.multiply(new BigDecimal(below)).toBigIntegerExact();
        return (part == 0 ? above : below).divide(above.gcd(below)).intValueExact();
    }

    private int roll(Beast of, int taken) {
        range(taken, -1, 1);
        int before = of.told;
        of.told = taken;
        return before;
    }

    private int whose(Beast of, Holder dying) {
        lives(dying);
        int can = 0;
        for (Holder h : now.holders) {
            World then = now.copy();
            then.beasts.get(of.number).goTo(h.number, BestBeast.NONE, BestBeast.NONE);
            List<Beast> taken = then.taken(then.holders.get(dying.number));
            boolean so = h.lives;
            for (Beast b : then.beasts) {
                so &= b.told == BestBeast.NONE || b.told == (taken.contains(b) ? 1 : 0);
            }
            can += so ? 1 << h.number : 0;
        }
        return can;
    }

    private int manors(int years, int seed, int what) {
        range(years, 1, 60);
        refuse(seed < 0, BestBeast.OUTSIDE);
        range(what, 0, 2);
        refuse(now.holders.isEmpty(), BestBeast.STATE);
        World then = now.copy();
        long next = seed;
        for (int year = 0; year < years; year++) {
            for (Holder h : then.holders) {
                if (h.lives) {
                    next = nextSeed(next);
                    if (next / 65536 % 10 < h.death) {
                        then.death(h.number);
                    }
                }
            }
            if (!then.beasts.isEmpty()) {
                next = nextSeed(next);
                Beast gift = then.beasts.get((int) (next / 65536 % then.beasts.size()));
                next = nextSeed(next);
                Holder to = then.holders.get((int) (next / 65536 % then.holders.size()));
                if (gift.owner != BestBeast.NONE && gift.owner != to.number && to.lives) {
                    gift.goTo(to.number, gift.owner, then.year);
                }
            }
            then.year++;
        }
        return (int) new long[] {then.taken - now.taken, then.alive(), next}[what];
    }

    private static long nextSeed(long seed) {
        return BigInteger.valueOf(1103515245).multiply(BigInteger.valueOf(seed)).add(BigInteger.valueOf(12345))
            .mod(BigInteger.ONE.shiftLeft(31)).longValueExact();
    }

    private int image() {
        kept = now.copy();
        return now.year;
    }

    private int restore() {
        refuse(kept == null, BestBeast.STATE);
        now = kept.copy();
        return now.year;
    }

    private int count(int what) {
        range(what, 0, 11);
        int[] all = {now.law(0), now.law(1), now.law(2), now.law(4), now.holders.size(), now.alive(),
            now.beasts.size(), now.notGone(), now.year, now.taken, page.length(), lawsRead};
        return all[what];
    }

    private long digest() {
        BigInteger h = BigInteger.valueOf(827);
        for (long number : numbers()) {
            h = h.multiply(BigInteger.valueOf(31)).add(BigInteger.valueOf(number));
        }
        BigInteger rest = h.mod(TWO_TO_64);
        return (rest.testBit(63) ? rest.subtract(TWO_TO_64) : rest).longValueExact();
    }

    private List<Long> numbers() {
        List<Long> all = new ArrayList<>();
        for (Holder h : now.holders) {
            for (int what = 0; what <= 8; what++) {
                all.add((long) about(h, what));
            }
            if (h.lives) {
                all.addAll(List.of((long) safe(h, 0), (long) safe(h, 1), (long) giving(h, 2), (long) mean(h, 2, 0),
                    (long) mean(h, 2, 1)));
            }
        }
        for (Beast b : now.beasts) {
            for (int what = 0; what <= 4; what++) {
                all.add((long) beastOf(b, what));
            }
        }
        for (char letter : page.toCharArray()) {
            all.add((long) letter);
        }
        for (int what = 0; what <= 11; what++) {
            all.add((long) count(what));
        }
        return all;
    }

    private static final class Holder {
        final int number;
        final int kind;
        final int death;
        boolean lives = true;
        int heir = BestBeast.NONE;

        Holder(int number, int kind, int death) {
            this.number = number;
            this.kind = kind;
            this.death = death;
        }

        Holder copy() {
            Holder other = new Holder(number, kind, death);
            other.lives = lives;
            other.heir = heir;
            return other;
        }
    }

    private static final class Beast {
        final int number;
        final int worth;
        int owner;
        int giver = BestBeast.NONE;
        int givenIn = BestBeast.NONE;
        int told = BestBeast.NONE;

        Beast(int number, int worth, int owner) {
            this.number = number;
            this.worth = worth;
            this.owner = owner;
        }

        void goTo(int to, int from, int year) {
            owner = to;
            giver = from;
            givenIn = year;
        }

        Beast copy() {
            Beast other = new Beast(number, worth, owner);
            other.goTo(owner, giver, givenIn);
            other.told = told;
            return other;
        }
    }

    /** All that an IMAGE keeps. */
    private static final class World {
        /** Somebody who is not the one that is asked for. */
        static final int ANOTHER = 1000;

        final List<Holder> holders = new ArrayList<>();
        final List<Beast> beasts = new ArrayList<>();
        String law = "111;0";
        int year = 0;
        int taken = 0;

        World copy() {
            World other = new World();
            for (Holder h : holders) {
                other.holders.add(h.copy());
            }
            for (Beast b : beasts) {
                other.beasts.add(b.copy());
            }
            other.law = law;
            other.year = year;
            other.taken = taken;
            return other;
        }

        int law(int place) {
            return law.charAt(place) - '0';
        }

        int alive() {
            return (int) holders.stream().filter(h -> h.lives).count();
        }

        int notGone() {
            return (int) beasts.stream().filter(b -> b.owner != BestBeast.NONE).count();
        }

        int lordMay(Holder of) {
            boolean free = of.kind == 3 || of.kind == 4;
            return free ? 0 : of.kind == 1 ? Math.max(0, law(0) - 1) : law(0);
        }

        int churchMay(Holder of) {
            return of.kind == 2 ? law(1) + 1 : of.kind == 4 ? Math.max(0, law(1) - 2) : law(1);
        }

        List<Beast> his(int holder) {
            return beasts.stream().filter(b -> b.owner == holder).toList();
        }

        List<Beast> held(int holder) {
            int years = law(2);
            return beasts.stream()
                .filter(b -> b.owner == holder || b.giver == holder && year - b.givenIn < years).toList();
        }

        List<Beast> taken(Holder of) {
            return held(of.number).stream().filter(b -> b.worth >= law(4))
                .sorted((a, b) -> a.worth == b.worth ? a.number - b.number : b.worth - a.worth)
                .limit(lordMay(of) + churchMay(of)).toList();
        }

        int loss(Holder of) {
            return of.lives ? taken(of).stream().mapToInt(b -> b.worth).sum() : 0;
        }

        int death(int number) {
            Holder dying = holders.get(number);
            int sum = loss(dying);
            for (Beast b : taken(dying)) {
                b.goTo(BestBeast.NONE, BestBeast.NONE, BestBeast.NONE);
            }
            dying.lives = false;
            boolean inherits = dying.heir != BestBeast.NONE && holders.get(dying.heir).lives;
            for (Beast b : his(number)) {
                b.goTo(inherits ? dying.heir : BestBeast.NONE, BestBeast.NONE, BestBeast.NONE);
            }
            taken += sum;
            return sum;
        }
    }
}
