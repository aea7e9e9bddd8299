/** Objects of BestBeast as tests need them, and what all tests ask of them. */
final class Make {
    static final int NONE = BestBeast.NONE;
    static final int UNKNOWN = BestBeast.UNKNOWN;
    static final int OUTSIDE = BestBeast.OUTSIDE;
    static final int STATE = BestBeast.STATE;
    static final int FULL = BestBeast.FULL;

    static final int HOLDER = 0;
    static final int WIDOW = 1;
    static final int CLERK = 2;
    static final int FREE = 3;
    static final int KNIGHT = 4;

    private Make() {
    }

    static void write(BestBeast x, String text) {
        x.blank();
        for (int i = 0; i < text.length(); i++) {
            x.letter(text.charAt(i));
        }
    }

    static BestBeast underLaw(String law) {
        BestBeast x = new BestBeast();
        write(x, law);
        if (x.law() != 1) {
            throw new IllegalStateException("no law: " + law);
        }
        return x;
    }

    /** Holders of KIND HOLDER, each with the DEATH told. */
    static BestBeast withHolders(String law, int... deaths) {
        BestBeast x = underLaw(law);
        for (int death : deaths) {
            x.holder(HOLDER, death);
        }
        return x;
    }

    static void beasts(BestBeast x, int holder, int... worths) {
        for (int worth : worths) {
            x.beast(holder, worth);
        }
    }

    static void years(BestBeast x, int many) {
        for (int i = 0; i < many; i++) {
            x.year();
        }
    }

    /** That a call was refused as told, and changed nothing. */
    static void refused(Due due, BestBeast x, String call, java.util.function.IntSupplier made, int want) {
        long before = x.digest();
        due.is(call, made.getAsInt(), want);
        due.is("digest() behind the refused " + call, x.digest(), before);
    }
}
