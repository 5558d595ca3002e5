import java.util.function.Supplier;

/** The boundaries of promises 20 to 23: who knocks back. */
public final class KnockerEdgesTest {

    private static final Edges edges = new Edges();
    private static final Due due = edges.due;
    private static final Supplier<RingingRock> EMPTY = Edges::empty;
    private static final Supplier<RingingRock> USUAL = Edges::usual;
    private static final Supplier<RingingRock> FULL = Edges::full;

    public static void main(String[] args) {
        fromEnds();
        fromByTimes();
        fromWhereNoWayLeads();
        fromCellsOfOtherPaces();
        middleOfNone();
        middleOfOne();
        middleOfSix();
        middleBehindOtherCalls();
        kindForEnds();
        kindForNobody();
        kindForByTime();
        kindForByWhatOthersHear();
        kindForOfEachCrew();
        placeEnds();
        placeAmongHoles();
        due.end();
    }

    private static Supplier<RingingRock> way(int time) {
        return () -> {
            Way way = new Way(time);
            way.crew(5, 0, 1);
            way.crew(6, way.end, 1);
            return way.x;
        };
    }

    // ---- promise 20

    private static void fromEnds() {
        edges.ends(USUAL, 0, 0, 3, "from", 0, 1, 4);
        edges.ends(USUAL, 1, 0, 3, "from", 1, 0, 4);
        edges.ends(USUAL, 2, -60, 60, "from", 1, 2, 4);
        for (int crew = 0; crew <= 3; crew++) {
            edges.refused(USUAL, Due.BEYOND, "from", crew, crew, 0);
        }
        edges.refused(EMPTY, Due.BEYOND, "from", 0, 1, 0);
        edges.refused(() -> Edges.told("crew"), Due.BEYOND, "from", 0, 1, 0);
        edges.onlyTells(USUAL, "from", 1, 2, 0);
    }

    /** No cell of the way but its begin has the whole way more to its end. */
    private static void fromByTimes() {
        edges.answers(way(59), 0, "from", 0, 1, 60);
        edges.answers(way(60), 1, "from", 0, 1, 60);
        edges.answers(way(61), 0, "from", 0, 1, 60);
        edges.answers(way(60), 1, "from", 1, 0, -60);
        edges.answers(way(61), 0, "from", 1, 0, -60);
        edges.answers(() -> Edges.told("crew at 35; mute at 35"), Edges.ALL, "from", 0, 1, 0);
        edges.answers(() -> Edges.told("crew at 35; mute at 35"), 0, "from", 0, 1, 1);
        edges.answers(() -> Edges.told("crew at 35; mute at 35"), 0, "from", 0, 1, -1);
        Supplier<RingingRock> corners = () -> Edges.told("rubble 0 to 35; crew; crew at 35");
        edges.answers(corners, 1, "from", 0, 1, 60);
        edges.answers(corners, 1L << 35, "from", 0, 1, -60);
    }

    private static void fromWhereNoWayLeads() {
        for (int u : new int[] {-60, -1, 0, 1, 60}) {
            edges.answers(() -> Edges.told("crew; crew at 35; hole 0; hole 35"), 0, "from", 0, 1, u);
            edges.answers(() -> Edges.told("crew; crew at 35; hole 35"), 0, "from", 0, 1, u);
            edges.answers(() -> Edges.told("crew; crew at 35; hole 12 to 17"), 0, "from", 0, 1, u);
        }
    }

    /** On a way in a row to its ends: what the end where it begins is of is all one, what the end that it comes into is of is not. */
    private static void fromCellsOfOtherPaces() {
        for (String stuff : new String[] {"rock", "rubble", "water", "iron"}) {
            String below = "hole 0 to 29; rubble 30; crew at 33; crew at 30; " + stuff + " 35";
            edges.answers(() -> Edges.told(below), Due.set(33, 34, 35), "from", 0, 1, 10);
            edges.answers(() -> Edges.told(below), Due.set(33, 34, 35), "from", 1, 0, -10);
            String above = "hole 6 to 35; rubble 5; crew at 2; crew at 5; " + stuff + " 0";
            edges.answers(() -> Edges.told(above), Due.set(0, 1, 2), "from", 0, 1, 10);
            edges.answers(() -> Edges.told(above), Due.set(0, 1, 2), "from", 1, 0, -10);
        }
    }

    // ---- promise 21

    private static void middleOfNone() {
        edges.refused(EMPTY, Due.BEYOND, "middle");
        edges.refused(() -> Edges.told("hole 0 to 35; crew"), Due.NONE, "middle");
        edges.refused(() -> Edges.told("crew; crew at 35; hole 35"), Due.NONE, "middle");
        edges.refused(() -> Edges.told("crew; crew at 35; hole 0"), Due.NONE, "middle");
        edges.refused(() -> Edges.told("crew; crew at 35; hole 12 to 17"), Due.NONE, "middle");
        edges.answers(() -> Edges.told("crew; crew at 35; hole 12 to 16"), 5, "middle");
    }

    private static void middleOfOne() {
        for (int c = 0; c < 36; c++) {
            int cell = c;
            edges.answers(() -> Edges.told("mute at " + cell), c, "middle");
        }
        edges.answers(() -> Edges.told("hole 0 to 35; iron 34; iron 35; deaf at 34"), 34, "middle");
        edges.onlyTells(USUAL, "middle");
        edges.answers(() -> Edges.told("hole 0 to 34; deaf at 35"), 35, "middle");
        // To itself the time is 0, to the cell of iron beside it 1.
        edges.answers(() -> Edges.told("iron 34; deaf at 35"), 35, "middle");
        edges.answers(() -> Edges.told("iron 29; iron 34; deaf at 35; mute at 35"), 35, "middle");
    }

    /** Six in one cell, and six of which just the last one is far. */
    private static void middleOfSix() {
        String five = "deaf at 5; deaf at 5; deaf at 5; deaf at 5; deaf at 5; deaf at ";
        edges.answers(() -> Edges.told(five + 5), 5, "middle");
        edges.answers(() -> Edges.told(five + 1), 3, "middle");
        edges.answers(() -> Edges.told(five + 0), 2, "middle");
        edges.onlyTells(FULL, "middle");
    }

    /** What other calls found out before is all one. */
    private static void middleBehindOtherCalls() {
        RingingRock x = Edges.told("crew; crew at 35; hole 12 to 17");
        due.is("none is come to from all", x.middle(), Due.NONE);
        x.from(0, 1, 0);
        x.apart(0, 1);
        x.change(1, 1, 5);
        due.is("between 0 and 5", x.middle(), 2);
        x.change(0, 1, 4);
        due.is("of 4 and 5", x.middle(), 4);
    }

    // ---- promise 22

    private static void kindForEnds() {
        edges.ends(USUAL, 0, 0, 3, "kindFor", 1);
        edges.ends(FULL, 0, 0, 5, "kindFor", 1);
        edges.refused(EMPTY, Due.BEYOND, "kindFor", 0);
        edges.onlyTells(FULL, "kindFor", 5);
    }

    private static void kindForNobody() {
        edges.answers(() -> Edges.told("deaf"), 0, "kindFor", 0);
        edges.answers(() -> Edges.told("bell; deaf; deaf"), 0, "kindFor", 0);
        edges.answers(() -> Edges.told("bell; crew; hole 0"), 0, "kindFor", 0);
        edges.answers(() -> Edges.told("mute; crew; crew; crew; crew; crew"), 0, "kindFor", 5);
    }

    /** By force 1 a crew carries 4, a hammer 8, a drill 13, a bell 14. */
    private static void kindForByTime() {
        int[] times = {4, 5, 8, 9, 13, 14, 15};
        int[] kinds = {0, 1, 1, 2, 2, 3, 0};
        for (int i = 0; i < times.length; i++) {
            int time = times[i];
            Supplier<RingingRock> floor = () -> {
                Way way = new Way(time);
                way.crew(6, 0, 1);
                way.crew(0, way.end, 20);
                return way.x;
            };
            edges.answers(floor, kinds[i], "kindFor", 0);
        }
    }

    /** At the way's end there is one who hears by so much; by each force another kind carries the sound so far. */
    private static void kindForByWhatOthersHear() {
        int[] hearsBy = {60, 60, 60, 40, 30, 30};
        for (int hearer = 0; hearer < 6; hearer++) {
            int limit = hearsBy[hearer];
            edges.answers(wayTo(limit, limit / 8 + 1, hearer), 1, "kindFor", 0);
            edges.answers(wayTo(limit + 1, limit / 8 + 1, hearer), 0, "kindFor", 0);
            edges.answers(wayTo(limit, limit / 8, hearer), limit % 8 == 0 ? 1 : 0, "kindFor", 0);
            if (hearer != 3) {
                // By force 7 a drill carries 61, by force 3 it carries 29; it starts by 1.
                edges.answers(wayTo(limit - 1, limit / 8, hearer), 2, "kindFor", 0);
            }
        }
        // By force 2 a drill carries 21, a bell 23; both of them come to the end by 24.
        edges.answers(wayTo(22, 2, 4), 3, "kindFor", 0);
        // By force 3 a drill carries 29, a bell 32; a soft one hears by 30, a bell is heard by 31 and 32.
        edges.answers(wayTo(29, 3, 4), 2, "kindFor", 0);
        edges.answers(wayTo(30, 3, 4), 0, "kindFor", 0);
        edges.answers(wayTo(30, 3, 0), 3, "kindFor", 0);
    }

    private static Supplier<RingingRock> wayTo(int time, int force, int hearer) {
        return () -> {
            Way way = new Way(time);
            way.crew(6, 0, force);
            way.crew(hearer, way.end, 1);
            return way.x;
        };
    }

    /** Each of six by the cell and the force of its own. */
    private static void kindForOfEachCrew() {
        Supplier<RingingRock> floor = () -> Edges.told("hole 0 to 35; rock 0 to 5; crew force 1;deaf at 5 force 1;mute at 3 force 1;soft at 4");
        // By 6 the one at 3 hears the one at 0, by 8 that at 4: a crew carries 4, a hammer 8.
        edges.answers(floor, 1, "kindFor", 0);
        edges.answers(floor, 2, "kindFor", 1);
        edges.answers(floor, 1, "kindFor", 2);
        edges.answers(floor, 0, "kindFor", 3);
    }

    // ---- promise 23

    private static void placeEnds() {
        edges.ends(USUAL, 0, 0, 3, "place", 1);
        edges.ends(FULL, 0, 0, 5, "place", 1);
        edges.refused(EMPTY, Due.BEYOND, "place", 0);
        edges.onlyTells(FULL, "place", 5);
        edges.answers(() -> Edges.told("bell at 35 force 20"), 0, "place", 0);
    }

    private static void placeAmongHoles() {
        edges.answers(() -> Edges.told("hole 0 to 35; bell at 35 force 20"), 0, "place", 0);
        edges.answers(() -> Edges.told("hole 0 to 34; mute at 3"), 35, "place", 0);
        edges.answers(() -> Edges.told("hole 0 to 35; rock 7; rock 34 to 35; bell at 3"), 34, "place", 0);
        // By 4 it is heard two cells to each side.
        edges.answers(() -> Edges.told("hole 0 to 35; rock 24 to 28; crew at 3 force 1"), 26, "place", 0);
    }
}
