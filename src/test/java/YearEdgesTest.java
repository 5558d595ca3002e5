import java.util.function.Supplier;

/** The boundaries of 'Terms' 2 on years and draws, and of promises 35 to 38. */
public final class YearEdgesTest {

    private static final Edges edges = new Edges();
    private static final Due due = edges.due;
    private static final Supplier<RingingRock> USUAL = Edges::usual;

    public static void main(String[] args) {
        drawsOfAnySeed();
        yearsEnds();
        yearsTo999();
        aheadEnds();
        aheadTo999();
        aheadNoYear();
        aheadLeavesAll();
        whenEnds();
        whenTo939();
        whenFrom1To60();
        whenFirstOrNoMore();
        seedOfAnyInt();
        due.end();
    }

    // ---- Terms 2, told once more

    private static int next(int z) {
        return (int) ((long) z * 1103515245L + 12345L);
    }

    private static int cellBy(int z) {
        return (int) ((next(z) & 0xffffffffL) / 256 % 36);
    }

    private static int stuffBy(int z) {
        return (int) ((next(next(z)) & 0xffffffffL) / 256 % 5);
    }

    /** Of z below and above 0 and near the ends of an int: what a draw gives is never below 0. */
    private static void drawsOfAnySeed() {
        int[] seeds = {0, 1, -1, 2, 255, 256, Integer.MAX_VALUE, Integer.MIN_VALUE, Integer.MAX_VALUE - 1, 0x55555555,
            0xaaaaaaaa, 0x7fffff00, 0x80000100, 123456789, -123456789, Due.LOW};
        for (int seed : seeds) {
            RingingRock x = Edges.told("iron 0 to 35");
            x.seed(seed);
            due.is("holes", x.years(1), stuffBy(seed) == 2 ? 1 : 0);
            due.is("z " + seed, x.count(6), next(next(seed)));
            due.is("the cell", x.stuff(cellBy(seed), 4), stuffBy(seed));
            due.is("no other cell", x.cells(4), Edges.ALL);
        }
    }

    // ---- promise 35

    private static void yearsEnds() {
        edges.ends(USUAL, 0, 1, 60, "years", 2);
        RingingRock x = Edges.usual();
        RingingRock twin = Edges.usual();
        int holes = x.years(60);
        for (int i = 1; i < 60; i++) {
            twin.years(1);
        }
        due.is("60 years, or 60 times one", twin.years(1), holes);
        edges.alike("60 years, or 60 times one", x, twin);
        due.is("years that were", Edges.inYear(63).count(0), 63);
    }

    private static void yearsTo999() {
        Supplier<RingingRock> in998 = () -> Edges.inYear(998);
        RingingRock x = in998.get();
        x.years(1);
        due.is("the last year", x.count(0), 999);
        edges.refused(in998, Due.STATE, "years", 2);
        edges.refused(in998, Due.STATE, "years", 60);
        edges.refused(in998, Due.BEYOND, "years", 0);
        edges.refused(in998, Due.BEYOND, "years", 61);
        edges.refused(() -> Edges.inYear(999), Due.STATE, "years", 1);
        edges.refused(() -> Edges.inYear(999), Due.BEYOND, "years", 0);
        edges.refused(() -> Edges.inYear(999), Due.BEYOND, "years", Integer.MAX_VALUE);
        edges.refused(() -> Edges.inYear(940), Due.STATE, "years", 60);
        x = Edges.inYear(939);
        x.years(60);
        due.is("60 years from 939", x.count(0), 999);
    }

    // ---- promise 36

    private static void aheadEnds() {
        edges.ends(USUAL, 0, 0, 60, "ahead", 2, 0);
        edges.ends(USUAL, 1, 0, 2, "ahead", 2, 0);
        edges.refused(USUAL, Due.BEYOND, "ahead", 61, 3);
    }

    private static void aheadTo999() {
        Supplier<RingingRock> in998 = () -> Edges.inYear(998);
        Supplier<RingingRock> in999 = () -> Edges.inYear(999);
        for (int what = 0; what <= 2; what++) {
            edges.onlyTells(in998, "ahead", 1, what);
            edges.onlyTells(in999, "ahead", 0, what);
            edges.refused(in998, Due.STATE, "ahead", 2, what);
            edges.refused(in999, Due.STATE, "ahead", 1, what);
            edges.refused(in999, Due.STATE, "ahead", 60, what);
            edges.refused(() -> Edges.inYear(940), Due.STATE, "ahead", 60, what);
            edges.onlyTells(() -> Edges.inYear(939), "ahead", 60, what);
        }
        edges.refused(in999, Due.BEYOND, "ahead", 61, 0);
        edges.refused(in999, Due.BEYOND, "ahead", -1, 0);
        edges.refused(in999, Due.BEYOND, "ahead", 1, 3);
        edges.refused(in999, Due.BEYOND, "ahead", 1, -1);
    }

    private static void aheadNoYear() {
        edges.answers(Edges::empty, 0, "ahead", 0, 0);
        edges.answers(Edges::empty, 36, "ahead", 0, 1);
        edges.answers(Edges::empty, 20, "ahead", 0, 2);
        Supplier<RingingRock> holes = () -> Edges.told("hole 0 to 35");
        edges.answers(holes, 36, "ahead", 0, 0);
        edges.answers(holes, 0, "ahead", 0, 1);
        edges.answers(holes, -1, "ahead", 0, 2);
        edges.answers(() -> Edges.told("hole 0"), -1, "ahead", 0, 2);
        edges.answers(() -> Edges.told("hole 35"), -1, "ahead", 0, 2);
        edges.answers(() -> Edges.told("bell at 35 force 20"), 0, "ahead", 0, 1);
    }

    private static void aheadLeavesAll() {
        for (int what = 0; what <= 2; what++) {
            edges.onlyTells(USUAL, "ahead", 0, what);
            edges.onlyTells(USUAL, "ahead", 1, what);
            edges.onlyTells(USUAL, "ahead", 60, what);
        }
        for (int n : new int[] {0, 1, 2, 59, 60}) {
            RingingRock then = Edges.usual();
            for (int i = 0; i < n; i++) {
                then.years(1);
            }
            edges.answers(USUAL, then.count(2), "ahead", n, 0);
            edges.answers(USUAL, Long.bitCount(then.silent()), "ahead", n, 1);
            int time = then.time(0, 35);
            edges.answers(USUAL, time == Due.NONE ? -1 : time, "ahead", n, 2);
        }
    }

    // ---- promise 37

    /** A floor of one crew that is heard in its own cell alone, where in a year there is a hole first. */
    private static Supplier<RingingRock> holeInYear(int year) {
        return () -> {
            RingingRock x = Edges.told("mute at 14");
            x.seed(seedOfHole(year));
            return x;
        };
    }

    private static int seedOfHole(int year) {
        for (int seed = 0; ; seed++) {
            int z = seed;
            int n = 1;
            while (n <= year && !(cellBy(z) == 14 && stuffBy(z) == 2)) {
                z = next(next(z));
                n++;
            }
            if (n == year) {
                return seed;
            }
        }
    }

    private static void whenEnds() {
        Supplier<RingingRock> soon = () -> {
            RingingRock x = Edges.told("crew; mute at 14; mute at 35");
            x.seed(seedOfHole(1));
            return x;
        };
        edges.refused(soon, Due.BEYOND, "when", -1, 0);
        edges.refused(soon, Due.BEYOND, "when", 3, 0);
        edges.refused(soon, Due.BEYOND, "when", Integer.MIN_VALUE, 0);
        edges.refused(soon, Due.BEYOND, "when", Integer.MAX_VALUE, 0);
        for (int cell : new int[] {-1, 36, Integer.MIN_VALUE, Integer.MAX_VALUE}) {
            edges.refused(soon, Due.BEYOND, "when", 0, cell);
        }
        edges.answers(soon, 1, "when", 0, 14);
        edges.answers(soon, 1, "when", 1, 14);
        edges.refused(soon, Due.NONE, "when", 2, 0);
        edges.refused(soon, Due.NONE, "when", 1, 35);
        edges.refused(Edges::empty, Due.BEYOND, "when", 0, 0);
    }

    private static void whenTo939() {
        Supplier<RingingRock> in939 = () -> muteInYear(939);
        Supplier<RingingRock> in940 = () -> muteInYear(940);
        edges.answers(in939, 60, "when", 0, 14);
        edges.onlyTells(in939, "when", 0, 14);
        edges.refused(in939, Due.NONE, "when", 0, 15);
        edges.refused(in940, Due.STATE, "when", 0, 14);
        edges.refused(in940, Due.STATE, "when", 0, 15);
        edges.refused(() -> muteInYear(999), Due.STATE, "when", 0, 14);
        edges.refused(in940, Due.BEYOND, "when", 1, 14);
        edges.refused(in940, Due.BEYOND, "when", 0, 36);
    }

    private static RingingRock muteInYear(int year) {
        RingingRock x = Edges.told("mute at 14");
        Edges.goTo(x, year);
        Edges.tell(x, "rock 0 to 35");
        x.seed(seedOfHole(60));
        return x;
    }

    private static void whenFrom1To60() {
        for (int year : new int[] {1, 2, 59, 60}) {
            edges.answers(holeInYear(year), year, "when", 0, 14);
        }
        edges.refused(holeInYear(61), Due.NONE, "when", 0, 14);
        edges.onlyTells(holeInYear(1), "when", 0, 14);
        edges.onlyTells(holeInYear(60), "when", 0, 14);
    }

    private static void whenFirstOrNoMore() {
        int stuffOfCell = 0;
        for (int seed = 0; stuffOfCell < 5; seed++) {
            if (cellBy(seed) == 1 && stuffBy(seed) == stuffOfCell) {
                int z = seed;
                for (int was = 0; was <= 4; was++) {
                    boolean unlike = was != stuffOfCell;
                    String told = new String[] {"rock 1", "rubble 1", "hole 1", "water 1", "iron 1"}[was] + "; hole 7; crew";
                    RingingRock x = Edges.told(told);
                    x.seed(z);
                    due.holds(told + ", then " + stuffOfCell, x.when(0, 1) == 1 == unlike);
                }
                stuffOfCell++;
            }
        }
    }

    // ---- promise 38

    private static void seedOfAnyInt() {
        int[] seeds = {0, 1, -1, Integer.MIN_VALUE, Integer.MAX_VALUE, Due.LOW, Due.LOW - 6, Due.LOW - 7, -1000000};
        for (int seed : seeds) {
            edges.answers(Edges::empty, 1, "seed", seed);
            Supplier<RingingRock> seeded = () -> {
                RingingRock x = Edges.usual();
                x.seed(seed);
                return x;
            };
            edges.answers(seeded, seed, "count", 6);
            edges.answers(seeded, seed, "seed", 7);
            edges.onlyTells(seeded, "seed", seed);
        }
    }
}
