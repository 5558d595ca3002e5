import java.util.function.Supplier;

/** The boundaries of 'Terms' 2 on digging and of promises 32 to 34. */
public final class DigEdgesTest {

    private static final Edges edges = new Edges();
    private static final Due due = edges.due;
    private static final Supplier<RingingRock> DRY = () -> {
        RingingRock x = Edges.usual();
        x.stuff(21, 0);
        x.burn();
        x.sure();
        return x;
    };

    public static void main(String[] args) {
        dryCells();
        digEnds();
        digToItself();
        digCosts();
        digNone();
        safeEnds();
        safeNone();
        safeInEachMap();
        waysEnds();
        waysEmptyAndFull();
        due.end();
    }

    // ---- Terms 2

    /** A way from a cell to itself is there, if the cell is dry. */
    private static void dryCells() {
        for (int water = 0; water < 36; water++) {
            RingingRock x = Edges.told("water " + water);
            for (int c = 0; c < 36; c++) {
                int steps = Math.abs(c / 6 - water / 6) + Math.abs(c % 6 - water % 6);
                due.is("water " + water + ", cell " + c, x.dig(c, c), steps <= 1 ? Due.NONE : 1);
                due.is("water " + water + ", cell " + c, x.ways(c) >> c & 1, steps <= 1 ? 0 : 1);
            }
        }
    }

    // ---- promise 32

    private static void digEnds() {
        edges.ends(DRY, 0, 0, 35, "dig", 3, 4);
        edges.ends(DRY, 1, 0, 35, "dig", 3, 4);
        edges.refused(DRY, Due.BEYOND, "dig", 36, -1);
        edges.onlyTells(DRY, "dig", 0, 35);
    }

    private static void digToItself() {
        String[] stuffs = {"rock", "rubble", "hole", "iron"};
        int[] costs = {1, 1, 0, 1};
        for (int i = 0; i < 4; i++) {
            for (int c : new int[] {0, 35}) {
                String told = stuffs[i] + " " + c;
                edges.answers(() -> Edges.told(told), costs[i], "dig", c, c);
            }
        }
    }

    private static void digCosts() {
        edges.answers(() -> Edges.told("hole 0 to 35"), 0, "dig", 0, 35);
        edges.answers(() -> Edges.told("hole 1 to 35"), 1, "dig", 0, 35);
        edges.answers(() -> Edges.told("hole 0 to 34"), 1, "dig", 0, 35);
        edges.answers(() -> Edges.told("hole 1 to 34"), 2, "dig", 0, 35);
        edges.answers(Edges::empty, 11, "dig", 0, 35);
        edges.answers(() -> Edges.told("rubble 0 to 5; iron 30 to 35"), 11, "dig", 0, 35);
    }

    private static void digNone() {
        edges.refused(() -> Edges.told("water 0"), Due.NONE, "dig", 0, 35);
        edges.refused(() -> Edges.told("water 0"), Due.NONE, "dig", 35, 0);
        edges.refused(() -> Edges.told("water 0"), Due.NONE, "dig", 0, 0);
        edges.refused(() -> Edges.told("water 0"), Due.NONE, "dig", 1, 35);
        edges.refused(() -> Edges.told("water 0"), Due.NONE, "dig", 35, 6);
        edges.refused(() -> Edges.told("water 0; hole 1"), Due.NONE, "dig", 1, 1);
        edges.answers(() -> Edges.told("water 0"), 1, "dig", 7, 7);
        edges.answers(() -> Edges.told("water 0"), 2, "dig", 2, 3);
        edges.refused(() -> Edges.told("water 18; water 21 to 22"), Due.NONE, "dig", 0, 35);
        edges.refused(() -> Edges.told("water 0 to 35"), Due.NONE, "dig", 14, 14);
    }

    // ---- promise 33

    private static void safeEnds() {
        edges.ends(DRY, 0, 0, 35, "safe", 3, 4);
        edges.ends(DRY, 1, 0, 35, "safe", 3, 4);
        edges.refused(DRY, Due.BEYOND, "safe", 36, -1);
        edges.onlyTells(() -> Edges.told("unsure 14; unsure 21"), "safe", 0, 35);
    }

    private static void safeNone() {
        Supplier<RingingRock> noneFits = () -> Edges.told("heard 5 5 1; unsure 35");
        edges.refused(noneFits, Due.NONE, "safe", 0, 0);
        edges.refused(noneFits, Due.BEYOND, "safe", 36, 0);
        edges.refused(noneFits, Due.BEYOND, "safe", 0, 36);
        edges.refused(() -> Edges.told("heard 5 5 1"), Due.NONE, "safe", 0, 1);
        edges.refused(() -> Edges.told("water 0"), Due.NONE, "safe", 0, 35);
        edges.refused(() -> Edges.told("water 18; water 21 to 22"), Due.NONE, "safe", 0, 35);
        edges.refused(() -> Edges.told("unsure 18; unsure 21"), Due.NONE, "safe", 12, 12);
        edges.refused(() -> Edges.told("unsure 14; water 14; heard 13 14 2"), Due.NONE, "safe", 14, 14);
    }

    /** That 14 may be water keeps the way from 13, 14, 15; the books tell that it isn't. */
    private static void safeInEachMap() {
        edges.answers(() -> Edges.told("unsure 14"), 1, "safe", 0, 0);
        edges.answers(() -> Edges.told("unsure 14"), 9, "safe", 12, 16);
        edges.answers(() -> Edges.told("unsure 14; heard 13 14 3"), 9, "safe", 12, 16);
        edges.answers(() -> Edges.told("unsure 14; heard 13 14 2"), 5, "safe", 12, 16);
        edges.answers(() -> Edges.told("unsure 14; hole 14; heard 13 14 2"), 4, "safe", 12, 16);
        edges.answers(() -> Edges.told("unsure 14; heard 13 14 99"), 5, "safe", 12, 16);
        edges.answers(() -> Edges.told("hole 0 to 35"), 0, "safe", 0, 35);
        edges.refused(() -> Edges.told("unsure 0; unsure 1; unsure 2; unsure 35"), Due.NONE, "safe", 35, 14);
        edges.answers(() -> Edges.told("unsure 0; unsure 1; unsure 2; unsure 35"), 5, "safe", 28, 14);
    }

    // ---- promise 34

    private static void waysEnds() {
        edges.ends(DRY, 0, 0, 35, "ways", 3);
        edges.onlyTells(DRY, "ways", 35);
    }

    private static void waysEmptyAndFull() {
        edges.answers(Edges::empty, Edges.ALL, "ways", 0);
        edges.answers(() -> Edges.told("hole 0 to 35"), Edges.ALL, "ways", 35);
        edges.answers(() -> Edges.told("water 0 to 35"), 0, "ways", 0);
        edges.answers(() -> Edges.told("water 7"), 0, "ways", 7);
        edges.answers(() -> Edges.told("water 7"), 0, "ways", 1);
        edges.answers(() -> Edges.told("water 7"), 1, "ways", 0);
        edges.answers(() -> Edges.told("water 7"), Edges.ALL & ~Due.set(0, 1, 6, 7, 8, 13), "ways", 35);
        edges.answers(() -> Edges.told("water 35"), Edges.ALL & ~Due.set(29, 34, 35), "ways", 0);
    }
}
