/** Manors where, at a holder's death, the lord and the church take the best beasts he had. */
public final class BestBeast {
    public static final int NONE = -1;
    public static final int UNKNOWN = -101;
    public static final int OUTSIDE = -102;
    public static final int STATE = -103;
    public static final int FULL = -104;

    private static final int ANY_HOLDER = 0;
    private static final int WIDOW = 1;
    private static final int CLERK = 2;
    private static final int FREE = 3;
    private static final int KNIGHT = 4;

    private static final int MOST_HOLDERS = 4;
    private static final int MOST_BEASTS = 6;
    private static final int MOST_LETTERS = 8;
    private static final int MOST_DEATH = 9;
    private static final int TENTHS = 10;
    private static final int MOST_WORTH = 99;
    private static final int MOST_GIVING_YEARS = 4;
    private static final int MOST_MANOR_YEARS = 60;
    private static final int LAST_ABOUT = 8;
    private static final int LAST_BEAST_OF = 4;
    private static final int LAST_COUNT = 11;
    private static final int DIGEST_YEARS = 2;

    // the least and the greatest letter that a LAW has at each place
    private static final char[] LAW_FROM = {'0', '0', '0', ';', '0'};
    private static final char[] LAW_TO = {'3', '3', '5', ';', '9'};

    private final Manor manor = new Manor();
    private final Manor kept = new Manor();
    private final Manor trial = new Manor();
    private final Draws draws = new Draws();
    private final int[] page = new int[MOST_LETTERS];
    private int letters = 0;
    private int lawsRead = 0;
    private boolean hasImage = false;

    public BestBeast() {
    }

    // ---- the law

    public int letter(int code) {
        if (!within(code, 1, 126)) {
            return OUTSIDE;
        }
        if (letters >= page.length) {
            return FULL;
        }
        page[letters] = code;
        letters++;
        return letters;
    }

    public int blank() {
        int had = letters;
        letters = 0;
        return had;
    }

    public int fault() {
        for (int place = 0; place < letters; place++) {
            if (!fitsLaw(place)) {
                return place;
            }
        }
        return letters;
    }

    public int law() {
        if (letters != LAW_FROM.length || fault() != letters) {
            return STATE;
        }
        manor.lord = page[0] - '0';
        manor.church = page[1] - '0';
        manor.voidYears = page[2] - '0';
        manor.least = page[4] - '0';
        letters = 0;
        lawsRead++;
        return lawsRead;
    }

    private boolean fitsLaw(int place) {
        if (place < 0 || place >= LAW_FROM.length || place >= LAW_TO.length || place >= page.length) {
            return false;
        }
        return within(page[place], LAW_FROM[place], LAW_TO[place]);
    }

    // ---- holders

    public int holder(int kind, int death) {
        if (!within(kind, ANY_HOLDER, KNIGHT) || !within(death, 0, MOST_DEATH)) {
            return OUTSIDE;
        }
        return manor.addHolder(kind, death);
    }

    public int about(int holder, int what) {
        if (!manor.hasHolder(holder)) {
            return UNKNOWN;
        }
        switch (what) {
            case 0: return manor.kind[holder];
            case 1: return manor.death[holder];
            case 2: return manor.alive[holder] ? 1 : 0;
            case 3: return manor.heirOf[holder];
            case 4: return manor.ownBits(holder);
            case 5: return manor.heldBits(holder);
            case 6: return manor.lordMay(manor.kind[holder]);
            case 7: return manor.churchMay(manor.kind[holder]);
            case 8: return manor.lossOf(holder);
            default: return OUTSIDE;
        }
    }

    public int as(int holder, int kind) {
        if (!manor.hasHolder(holder)) {
            return UNKNOWN;
        }
        if (!within(kind, ANY_HOLDER, KNIGHT)) {
            return OUTSIDE;
        }
        return isSuch(manor.kind[holder], kind) ? holder : NONE;
    }

    public int heir(int holder, int heir) {
        if (!manor.hasHolder(holder) || heir == holder || (heir != NONE && !manor.hasHolder(heir))) {
            return UNKNOWN;
        }
        int before = manor.heirOf[holder];
        manor.heirOf[holder] = heir;
        return before;
    }

    private static boolean isSuch(int kind, int asked) {
        return asked == ANY_HOLDER || asked == kind || (asked == FREE && kind == KNIGHT);
    }

    // ---- beasts

    public int beast(int holder, int worth) {
        if (!manor.hasHolder(holder)) {
            return UNKNOWN;
        }
        if (!within(worth, 1, MOST_WORTH)) {
            return OUTSIDE;
        }
        if (!manor.alive[holder]) {
            return STATE;
        }
        return manor.addBeast(holder, worth);
    }

    public int beastOf(int beast, int what) {
        if (!manor.hasBeast(beast)) {
            return UNKNOWN;
        }
        switch (what) {
            case 0: return manor.worth[beast];
            case 1: return manor.owner[beast];
            case 2: return manor.giver[beast];
            case 3: return manor.givenIn[beast];
            case 4: return manor.told[beast];
            default: return OUTSIDE;
        }
    }

    public int give(int beast, int to) {
        if (!manor.hasBeast(beast) || !manor.hasHolder(to)) {
            return UNKNOWN;
        }
        if (!manor.mayGive(beast, to)) {
            return STATE;
        }
        int before = manor.owner[beast];
        manor.makeGift(beast, to);
        return before;
    }

    public int die(int holder) {
        if (!manor.hasHolder(holder)) {
            return UNKNOWN;
        }
        if (!manor.alive[holder]) {
            return STATE;
        }
        return manor.bury(holder);
    }

    public int year() {
        manor.yearNow++;
        return manor.yearNow;
    }

    // ---- what would be

    public int safe(int holder, int what) {
        if (!manor.hasHolder(holder)) {
            return UNKNOWN;
        }
        if (!within(what, 0, 1)) {
            return OUTSIDE;
        }
        if (!manor.alive[holder]) {
            return STATE;
        }
        int bits = manor.fewestToBeSafe(holder);
        return what == 0 && bits != NONE ? Integer.bitCount(bits) : bits;
    }

    public int giving(int holder, int years) {
        if (!manor.hasHolder(holder)) {
            return UNKNOWN;
        }
        if (!within(years, 1, MOST_GIVING_YEARS)) {
            return OUTSIDE;
        }
        if (!manor.alive[holder]) {
            return STATE;
        }
        return manor.bestGift(holder, years);
    }

    public int mean(int holder, int years, int part) {
        if (!manor.hasHolder(holder)) {
            return UNKNOWN;
        }
        if (!within(years, 1, MOST_GIVING_YEARS) || !within(part, 0, 1)) {
            return OUTSIDE;
        }
        if (!manor.alive[holder]) {
            return STATE;
        }
        int above = manor.lostOnMean(holder, years, manor.bestGift(holder, years));
        int below = powerOfTen(years);
        int common = commonDivisor(above, below);
        if (common == 0) {
            return 0;
        }
        return (part == 0 ? above : below) / common;
    }

    private static int powerOfTen(int power) {
        int product = 1;
        for (int i = 0; i < power; i++) {
            product *= TENTHS;
        }
        return product;
    }

    private static int commonDivisor(int one, int other) {
        int a = one;
        int b = other;
        for (int step = 0; step < 1000 && b != 0; step++) {
            int rest = a % b;
            a = b;
            b = rest;
        }
        return a;
    }

    // ---- rolls

    public int roll(int beast, int taken) {
        if (!manor.hasBeast(beast)) {
            return UNKNOWN;
        }
        if (!within(taken, NONE, 1)) {
            return OUTSIDE;
        }
        int before = manor.told[beast];
        manor.told[beast] = taken;
        return before;
    }

    public int whose(int beast, int holder) {
        if (!manor.hasBeast(beast) || !manor.hasHolder(holder)) {
            return UNKNOWN;
        }
        if (!manor.alive[holder]) {
            return STATE;
        }
        trial.copyFrom(manor);
        int can = 0;
        for (int of = 0; of < trial.holders; of++) {
            if (!trial.isAlive(of)) {
                continue;
            }
            trial.putTo(beast, of);
            if (trial.isAsTold(trial.takenFrom(holder, trial.heldBits(holder)))) {
                can |= 1 << of;
            }
        }
        return can;
    }

    public int manors(int years, int seed, int what) {
        if (!within(years, 1, MOST_MANOR_YEARS) || seed < 0 || !within(what, 0, 2)) {
            return OUTSIDE;
        }
        if (manor.holders == 0) {
            return STATE;
        }
        trial.copyFrom(manor);
        draws.seed = seed;
        for (int y = 0; y < years; y++) {
            trial.liveOneYear(draws);
        }
        switch (what) {
            case 0: return trial.takenWorth - manor.takenWorth;
            case 1: return trial.countAlive();
            default: return draws.seed;
        }
    }

    // ---- what is told of all

    public int image() {
        kept.copyFrom(manor);
        hasImage = true;
        return manor.yearNow;
    }

    public int restore() {
        if (!hasImage) {
            return STATE;
        }
        manor.copyFrom(kept);
        return manor.yearNow;
    }

    public int count(int what) {
        switch (what) {
            case 0: return manor.lord;
            case 1: return manor.church;
            case 2: return manor.voidYears;
            case 3: return manor.least;
            case 4: return manor.holders;
            case 5: return manor.countAlive();
            case 6: return manor.beasts;
            case 7: return manor.countNotGone();
            case 8: return manor.yearNow;
            case 9: return manor.takenWorth;
            case 10: return letters;
            case 11: return lawsRead;
            default: return OUTSIDE;
        }
    }

    public long digest() {
        long h = 827;
        for (int n = 0; n < manor.holders; n++) {
            for (int what = 0; what <= LAST_ABOUT; what++) {
                h = 31 * h + about(n, what);
            }
            if (manor.isAlive(n)) {
                h = 31 * h + safe(n, 0);
                h = 31 * h + safe(n, 1);
                h = 31 * h + giving(n, DIGEST_YEARS);
                h = 31 * h + mean(n, DIGEST_YEARS, 0);
                h = 31 * h + mean(n, DIGEST_YEARS, 1);
            }
        }
        for (int n = 0; n < manor.beasts; n++) {
            for (int what = 0; what <= LAST_BEAST_OF; what++) {
                h = 31 * h + beastOf(n, what);
            }
        }
        for (int place = 0; place < letters && place < page.length; place++) {
            h = 31 * h + page[place];
        }
        for (int what = 0; what <= LAST_COUNT; what++) {
            h = 31 * h + count(what);
        }
        return h;
    }

    private static boolean within(int number, int from, int to) {
        return number >= from && number <= to;
    }

    /** The numbers that a seed draws, one after the other. */
    private static final class Draws {
        int seed = 0;

        int drawOf(int many) {
            seed = (int) ((1103515245L * seed + 12345L) & 0x7fffffffL);
            return many > 0 ? seed / 65536 % many : 0;
        }
    }

    /**
     * All that an IMAGE keeps: the law, the holders, the beasts, the year. Rows are made once, and
     * copied from one manor to another, since a room holds all that any call ever makes.
     */
    private static final class Manor {
        int lord = 1;
        int church = 1;
        int voidYears = 1;
        int least = 0;

        int holders = 0;
        final int[] kind = new int[MOST_HOLDERS];
        final int[] death = new int[MOST_HOLDERS];
        final int[] heirOf = new int[MOST_HOLDERS];
        final boolean[] alive = new boolean[MOST_HOLDERS];

        int beasts = 0;
        final int[] worth = new int[MOST_BEASTS];
        final int[] owner = new int[MOST_BEASTS];
        final int[] giver = new int[MOST_BEASTS];
        final int[] givenIn = new int[MOST_BEASTS];
        final int[] told = new int[MOST_BEASTS];

        int yearNow = 0;
        int takenWorth = 0;

        void copyFrom(Manor other) {
            if (other == null) {
                return;
            }
            lord = other.lord;
            church = other.church;
            voidYears = other.voidYears;
            least = other.least;
            holders = other.holders;
            beasts = other.beasts;
            yearNow = other.yearNow;
            takenWorth = other.takenWorth;
            System.arraycopy(other.kind, 0, kind, 0, MOST_HOLDERS);
            System.arraycopy(other.death, 0, death, 0, MOST_HOLDERS);
            System.arraycopy(other.heirOf, 0, heirOf, 0, MOST_HOLDERS);
            System.arraycopy(other.alive, 0, alive, 0, MOST_HOLDERS);
            System.arraycopy(other.worth, 0, worth, 0, MOST_BEASTS);
            System.arraycopy(other.owner, 0, owner, 0, MOST_BEASTS);
            System.arraycopy(other.giver, 0, giver, 0, MOST_BEASTS);
            System.arraycopy(other.givenIn, 0, givenIn, 0, MOST_BEASTS);
            System.arraycopy(other.told, 0, told, 0, MOST_BEASTS);
        }

        boolean hasHolder(int number) {
            return number >= 0 && number < holders && number < MOST_HOLDERS;
        }

        boolean hasBeast(int number) {
            return number >= 0 && number < beasts && number < MOST_BEASTS;
        }

        boolean isAlive(int number) {
            return hasHolder(number) && alive[number];
        }

        int countAlive() {
            int many = 0;
            for (int h = 0; h < holders; h++) {
                if (isAlive(h)) {
                    many++;
                }
            }
            return many;
        }

        int countNotGone() {
            int many = 0;
            for (int b = 0; b < beasts; b++) {
                if (hasBeast(b) && owner[b] != NONE) {
                    many++;
                }
            }
            return many;
        }

        /** The number of a new one, or FULL. */
        int addHolder(int ofKind, int withDeath) {
            if (holders < 0 || holders >= MOST_HOLDERS) {
                return FULL;
            }
            int number = holders;
            kind[number] = ofKind;
            death[number] = withDeath;
            heirOf[number] = NONE;
            alive[number] = true;
            holders++;
            return number;
        }

        /** The number of a new one, or FULL. */
        int addBeast(int of, int ofWorth) {
            if (beasts < 0 || beasts >= MOST_BEASTS) {
                return FULL;
            }
            int number = beasts;
            beasts++;
            worth[number] = ofWorth;
            told[number] = NONE;
            putTo(number, of);
            return number;
        }

        /** Whose it is changes (NONE: it is gone), and nobody gave it. */
        void putTo(int beast, int to) {
            if (!hasBeast(beast)) {
                return;
            }
            owner[beast] = to;
            giver[beast] = NONE;
            givenIn[beast] = NONE;
        }

        boolean mayGive(int beast, int to) {
            return hasBeast(beast) && isAlive(to) && owner[beast] != NONE && owner[beast] != to;
        }

        void makeGift(int beast, int to) {
            if (!mayGive(beast, to)) {
                return;
            }
            giver[beast] = owner[beast];
            givenIn[beast] = yearNow;
            owner[beast] = to;
        }

        int lordMay(int ofKind) {
            if (ofKind == FREE || ofKind == KNIGHT) {
                return 0;
            }
            return ofKind == WIDOW ? Math.max(0, lord - 1) : lord;
        }

        int churchMay(int ofKind) {
            if (ofKind == CLERK) {
                return church + 1;
            }
            return ofKind == KNIGHT ? Math.max(0, church - 2) : church;
        }

        int ownBits(int holder) {
            int bits = 0;
            for (int b = 0; b < beasts; b++) {
                if (hasBeast(b) && owner[b] == holder) {
                    bits |= 1 << b;
                }
            }
            return bits;
        }

        int heldBits(int holder) {
            return heldLater(holder, 0, 0);
        }

        /** What is HELD of one so many years from now, if he gives the beasts of the bits away now. */
        int heldLater(int holder, int later, int gift) {
            int bits = ownBits(holder);
            if (later >= voidYears) {
                bits &= ~gift;
            }
            for (int b = 0; b < beasts; b++) {
                if (hasBeast(b) && giver[b] == holder && yearNow + later - givenIn[b] < voidYears) {
                    bits |= 1 << b;
                }
            }
            return bits;
        }

        /** Which of the held ones are taken: the lord's are the best, and the church's the next. */
        int takenFrom(int holder, int held) {
            if (!hasHolder(holder)) {
                return 0;
            }
            int many = lordMay(kind[holder]) + churchMay(kind[holder]);
            int taken = 0;
            for (int turn = 0; turn < many; turn++) {
                int best = bestOf(held & ~taken);
                if (best == NONE) {
                    break;
                }
                taken |= 1 << best;
            }
            return taken;
        }

        int bestOf(int bits) {
            int best = NONE;
            int bestWorth = least - 1;
            for (int b = 0; b < beasts; b++) {
                if ((bits >> b & 1) == 1 && hasBeast(b) && worth[b] > bestWorth) {
                    best = b;
                    bestWorth = worth[b];
                }
            }
            return best;
        }

        /** The worth, all together, of what would be taken, if he died now; of one who does not live 0. */
        int lossOf(int holder) {
            return isAlive(holder) ? worthOf(takenFrom(holder, heldBits(holder))) : 0;
        }

        int worthOf(int bits) {
            int sum = 0;
            for (int b = 0; b < beasts; b++) {
                if ((bits >> b & 1) == 1 && hasBeast(b)) {
                    sum += worth[b];
                }
            }
            return sum;
        }

        int bury(int holder) {
            if (!isAlive(holder)) {
                return 0;
            }
            int taken = takenFrom(holder, heldBits(holder));
            int sum = worthOf(taken);
            int next = isAlive(heirOf[holder]) ? heirOf[holder] : NONE;
            for (int b = 0; b < beasts; b++) {
                if ((taken >> b & 1) == 1) {
                    putTo(b, NONE);
                } else if (hasBeast(b) && owner[b] == holder) {
                    putTo(b, next);
                }
            }
            alive[holder] = false;
            takenWorth += sum;
            return sum;
        }

        /** The fewest of one's beasts without which nothing would be taken, as bits, or NONE. */
        int fewestToBeSafe(int holder) {
            int own = ownBits(holder);
            int held = heldBits(holder);
            int fewest = NONE;
            for (int bits = 0; bits <= own; bits++) {
                if ((bits & ~own) != 0 || takenFrom(holder, held & ~bits) != 0) {
                    continue;
                }
                // bits rise, so of like ones the first stays
                if (fewest == NONE || Integer.bitCount(bits) < Integer.bitCount(fewest)) {
                    fewest = bits;
                }
            }
            return fewest;
        }

        /** Which of one's beasts are best given now, as bits. */
        int bestGift(int holder, int years) {
            int own = ownBits(holder);
            int best = 0;
            int bestLost = lostOnMean(holder, years, 0);
            for (int bits = 1; bits <= own; bits++) {
                if ((bits & ~own) != 0) {
                    continue;
                }
                int lost = lostOnMean(holder, years, bits);
                // bits rise, so of like ones the first stays
                boolean fewer = Integer.bitCount(bits) < Integer.bitCount(best);
                if (lost < bestLost || (lost == bestLost && fewer)) {
                    best = bits;
                    bestLost = lost;
                }
            }
            return best;
        }

        /** What is lost on the mean, if a gift is made now, times ten to the power of the years. */
        int lostOnMean(int holder, int years, int gift) {
            if (!hasHolder(holder)) {
                return 0;
            }
            int lost = 0;
            int stillAlive = 1;
            for (int later = 0; later < years; later++) {
                int loss = worthOf(takenFrom(holder, heldLater(holder, later, gift)));
                lost = lost * TENTHS + stillAlive * death[holder] * loss;
                stillAlive *= TENTHS - death[holder];
            }
            return lost;
        }

        /** Whether all that the rolls tell would be so, if these, and no others, were taken. */
        boolean isAsTold(int taken) {
            for (int b = 0; b < beasts; b++) {
                if (hasBeast(b) && told[b] != NONE && told[b] != (taken >> b & 1)) {
                    return false;
                }
            }
            return true;
        }

        void liveOneYear(Draws draws) {
            if (draws == null) {
                return;
            }
            for (int h = 0; h < holders; h++) {
                if (isAlive(h) && draws.drawOf(TENTHS) < death[h]) {
                    bury(h);
                }
            }
            if (beasts > 0) {
                int beast = draws.drawOf(beasts);
                makeGift(beast, draws.drawOf(holders));
            }
            yearNow++;
        }
    }
}
