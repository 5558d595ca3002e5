/** Counts the answers of a test that are not as due, and ends it. */
final class Due {

    static final int LOW = -1000001;
    static final int BEYOND = LOW, FULL = LOW - 1, KIND = LOW - 2, NONE = LOW - 3, STATE = LOW - 4;
    static final int MISSING = LOW - 5, SIZE = LOW - 6;

    private int wrong = 0;

    void is(String call, long got, long want) {
        if (got != want) {
            wrong++;
            if (wrong <= 40) {
                System.out.println(call + " answered " + got + ", due is " + want);
            }
        }
    }

    void holds(String what, boolean right) {
        is(what, right ? 1 : 0, 1);
    }

    void end() {
        if (wrong != 0) {
            System.out.println(wrong + " answers are not as due");
            System.exit(1);
        }
    }

    /** A set of cells, crews, hours or stuffs. */
    static long set(int... members) {
        long set = 0;
        for (int m : members) {
            set |= 1L << m;
        }
        return set;
    }

    static void feedAll(RingingRock x, String text) {
        for (int i = 0; i < text.length(); i++) {
            x.feed(text.charAt(i), 1);
        }
    }

    static int tell(RingingRock x, String text) {
        feedAll(x, text);
        return x.text();
    }
}
