import java.util.function.Supplier;

/** The boundaries of promises 20 to 23: who knocks back. */
public final class KnockerEdgesTest {

    private static final Edges edges = new Edges();
    private static final Supplier<RingingRock> EMPTY = Edges::empty;
    private static final Supplier<RingingRock> USUAL = Edges::usual;
    private static final Supplier<RingingRock> FULL = Edges::full;

    public static void main(String[] args) {
        fromEnds();
        fromByTimes();
        fromWhereNoWayLeads();
        middleOfNone();
        middleOfOne();
        middleOfSix();
        kindForEnds();
        kindForNobody();
        kindForByTime();
        placeEnds();
        placeAmongHoles();
        edges.due.end();
    }

    private static Supplier<RingingRock> way(int time) {
        return () -> {
            Way way = new Way(time);
            way.crew(5, 0, 1);
            way.crew(6, way.end, 1);
            return way.x;
        };
    }

    // ---- promise 20

    private static void fromEnds() {
        edges.ends(USUAL, 0, 0, 3, "from", 0, 1, 4);
        edges.ends(USUAL, 1, 0, 3, "from", 1, 0, 4);
        edges.ends(USUAL, 2, -60, 60, "from", 1, 2, 4);
        for (int crew = 0; crew <= 3; crew++) {
            edges.refused(USUAL, Due.BEYOND, "from", crew, crew, 0);
        }
        edges.refused(EMPTY, Due.BEYOND, "from", 0, 1, 0);
        edges.refused(() -> Edges.told("crew"), Due.BEYOND, "from", 0, 1, 0);
        edges.onlyTells(USUAL, "from", 1, 2, 0);
    }

    /** No cell of the way but its begin has the whole way more to its end. */
    private static void fromByTimes() {
        edges.answers(way(59), 0, "from", 0, 1, 60);
        edges.answers(way(60), 1, "from", 0, 1, 60);
        edges.answers(way(61), 0, "from", 0, 1, 60);
        edges.answers(way(60), 1, "from", 1, 0, -60);
        edges.answers(way(61), 0, "from", 1, 0, -60);
        edges.answers(() -> Edges.told("crew at 35; mute at 35"), Edges.ALL, "from", 0, 1, 0);
        edges.answers(() -> Edges.told("crew at 35; mute at 35"), 0, "from", 0, 1, 1);
        edges.answers(() -> Edges.told("crew at 35; mute at 35"), 0, "from", 0, 1, -1);
        Supplier<RingingRock> corners = () -> Edges.told("rubble 0 to 35; crew; crew at 35");
        edges.answers(corners, 1, "from", 0, 1, 60);
        edges.answers(corners, 1L << 35, "from", 0, 1, -60);
    }

    private static void fromWhereNoWayLeads() {
        for (int u : new int[] {-60, -1, 0, 1, 60}) {
            edges.answers(() -> Edges.told("crew; crew at 35; hole 0; hole 35"), 0, "from", 0, 1, u);
            edges.answers(() -> Edges.told("crew; crew at 35; hole 35"), 0, "from", 0, 1, u);
            edges.answers(() -> Edges.told("crew; crew at 35; hole 12 to 17"), 0, "from", 0, 1, u);
        }
    }

    // ---- promise 21

    private static void middleOfNone() {
        edges.refused(EMPTY, Due.BEYOND, "middle");
        edges.refused(() -> Edges.told("hole 0 to 35; crew"), Due.NONE, "middle");
        edges.refused(() -> Edges.told("crew; crew at 35; hole 35"), Due.NONE, "middle");
        edges.refused(() -> Edges.told("crew; crew at 35; hole 0"), Due.NONE, "middle");
        edges.refused(() -> Edges.told("crew; crew at 35; hole 12 to 17"), Due.NONE, "middle");
        edges.answers(() -> Edges.told("crew; crew at 35; hole 12 to 16"), 5, "middle");
    }

    private static void middleOfOne() {
        for (int c = 0; c < 36; c++) {
            int cell = c;
            edges.answers(() -> Edges.told("mute at " + cell), c, "middle");
        }
        edges.answers(() -> Edges.told("hole 0 to 35; iron 34; iron 35; deaf at 34"), 34, "middle");
        edges.onlyTells(USUAL, "middle");
        edges.answers(() -> Edges.told("hole 0 to 34; deaf at 35"), 35, "middle");
    }

    /** Six in one cell, and six of which just the last one is far. */
    private static void middleOfSix() {
        String five = "deaf at 5; deaf at 5; deaf at 5; deaf at 5; deaf at 5; deaf at ";
        edges.answers(() -> Edges.told(five + 5), 5, "middle");
        edges.answers(() -> Edges.told(five + 1), 3, "middle");
        edges.answers(() -> Edges.told(five + 0), 2, "middle");
        edges.onlyTells(FULL, "middle");
    }

    // ---- promise 22

    private static void kindForEnds() {
        edges.ends(USUAL, 0, 0, 3, "kindFor", 1);
        edges.ends(FULL, 0, 0, 5, "kindFor", 1);
        edges.refused(EMPTY, Due.BEYOND, "kindFor", 0);
        edges.onlyTells(FULL, "kindFor", 5);
    }

    private static void kindForNobody() {
        edges.answers(() -> Edges.told("deaf"), 0, "kindFor", 0);
        edges.answers(() -> Edges.told("bell; deaf; deaf"), 0, "kindFor", 0);
        edges.answers(() -> Edges.told("bell; crew; hole 0"), 0, "kindFor", 0);
        edges.answers(() -> Edges.told("mute; crew; crew; crew; crew; crew"), 0, "kindFor", 5);
    }

    /** By force 1 a crew carries 4, a hammer 8, a drill 13, a bell 14. */
    private static void kindForByTime() {
        int[] times = {4, 5, 8, 9, 13, 14, 15};
        int[] kinds = {0, 1, 1, 2, 2, 3, 0};
        for (int i = 0; i < times.length; i++) {
            int time = times[i];
            Supplier<RingingRock> floor = () -> {
                Way way = new Way(time);
                way.crew(6, 0, 1);
                way.crew(0, way.end, 20);
                return way.x;
            };
            edges.answers(floor, kinds[i], "kindFor", 0);
        }
    }

    // ---- promise 23

    private static void placeEnds() {
        edges.ends(USUAL, 0, 0, 3, "place", 1);
        edges.ends(FULL, 0, 0, 5, "place", 1);
        edges.refused(EMPTY, Due.BEYOND, "place", 0);
        edges.onlyTells(FULL, "place", 5);
        edges.answers(() -> Edges.told("bell at 35 force 20"), 0, "place", 0);
    }

    private static void placeAmongHoles() {
        edges.answers(() -> Edges.told("hole 0 to 35; bell at 35 force 20"), 0, "place", 0);
        edges.answers(() -> Edges.told("hole 0 to 34; mute at 3"), 35, "place", 0);
        edges.answers(() -> Edges.told("hole 0 to 35; rock 7; rock 34 to 35; bell at 3"), 34, "place", 0);
        // By 4 it is heard two cells to each side.
        edges.answers(() -> Edges.told("hole 0 to 35; rock 24 to 28; crew at 3 force 1"), 26, "place", 0);
    }
}
