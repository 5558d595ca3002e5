import java.util.function.Supplier;

/** The boundaries of promises 24 to 31: books, maps. */
public final class MapEdgesTest {

    private static final Edges edges = new Edges();
    private static final Due due = edges.due;
    private static final Supplier<RingingRock> EMPTY = Edges::empty;
    private static final Supplier<RingingRock> USUAL = Edges::usual;
    private static final Supplier<RingingRock> FULL = Edges::full;

    /** As many maps as there can be, of which none fits. */
    private static final Supplier<RingingRock> NONE_FITS = () -> Edges.told("crew; unsure 1; unsure 2; unsure 3; unsure 4; heard 35 35 1");

    private static final String[] UNSURE = {"rock 0", "unsure 1", "unsure 1; unsure 35", "unsure 1; unsure 35; unsure 7",
        "unsure 1; unsure 35; unsure 7; unsure 8"};
    private static final int[] MAPS = {1, 5, 25, 125, 625};

    public static void main(String[] args) {
        bookEnds();
        atMostEightBooks();
        burnEmptyAndFull();
        wrongOfNoneAndOfEight();
        wrongByTimesTo99();
        fitsNoneAndAll();
        mapEnds();
        mapNearest();
        mayEnds();
        mayNoneAndAll();
        laysEnds();
        laysNoUnsure();
        laysDigits();
        asksEnds();
        asksOfNone();
        asksTies();
        asksFarTimes();
        asksFourOrFiveTimes();
        asksOneTime();
        asksFiveTimesOfTwo();
        asksAgain();
        due.end();
    }

    /** A floor with so many unsure cells. */
    private static Supplier<RingingRock> unsure(int many) {
        return () -> Edges.told(UNSURE[many]);
    }

    // ---- promise 24

    private static void bookEnds() {
        edges.ends(USUAL, 0, 0, 35, "book", 3, 4, 5);
        edges.ends(USUAL, 1, 0, 35, "book", 3, 4, 5);
        edges.ends(USUAL, 2, 0, 99, "book", 3, 4, 5);
        edges.refused(USUAL, Due.BEYOND, "book", 36, -1, 100);
    }

    private static void atMostEightBooks() {
        edges.answers(EMPTY, 1, "book", 35, 35, 99);
        Supplier<RingingRock> seven = () -> Edges.told("heard 0 0 0;heard 0 0 0;heard 0 0 0;heard 0 0 0;heard 0 0 0;heard 0 0 0;heard 0 0 0");
        edges.answers(seven, 8, "book", 0, 0, 0);
        edges.refused(FULL, Due.FULL, "book", 0, 0, 0);
        edges.refused(FULL, Due.BEYOND, "book", 36, 0, 0);
        edges.refused(FULL, Due.BEYOND, "book", 0, -1, 0);
        edges.refused(FULL, Due.BEYOND, "book", 0, 0, 100);
    }

    // ---- promise 25

    private static void burnEmptyAndFull() {
        edges.answers(EMPTY, 0, "burn");
        edges.answers(USUAL, 2, "burn");
        edges.answers(FULL, 8, "burn");
        RingingRock x = Edges.full();
        x.burn();
        due.is("burnt", x.count(3), 0);
        due.is("burnt", x.burn(), 0);
        due.is("none is wrong", x.wrong(), Due.NONE);
        for (int i = 1; i <= 8; i++) {
            due.is("book again", x.book(0, 0, 0), i);
        }
        due.is("a 9th", x.book(0, 0, 0), Due.FULL);
    }

    // ---- promise 26

    private static void wrongOfNoneAndOfEight() {
        edges.refused(EMPTY, Due.NONE, "wrong");
        edges.refused(USUAL, Due.NONE, "wrong");
        edges.refused(FULL, Due.NONE, "wrong");
        String right = "heard 0 1 2;";
        StringBuilder text = new StringBuilder();
        for (int i = 0; i < 8; i++) {
            String told = text + "heard 0 1 3";
            edges.answers(() -> Edges.told(told), i, "wrong");
            text.append(right);
        }
        edges.answers(() -> Edges.told("heard 0 0 1;heard 0 0 1"), 0, "wrong");
        edges.onlyTells(() -> Edges.told("heard 0 0 1;heard 0 0 1"), "wrong");
    }

    private static void wrongByTimesTo99() {
        int[] times = {0, 1, 97, 98, 99, 100, 138};
        for (int time : times) {
            for (int told : new int[] {0, 1, 97, 98, 99}) {
                Supplier<RingingRock> floor = () -> {
                    Way way = new Way(time);
                    way.x.book(0, way.end, told);
                    return way.x;
                };
                boolean right = told == Math.min(time, 99);
                if (right) {
                    edges.refused(floor, Due.NONE, "wrong");
                } else {
                    edges.answers(floor, 0, "wrong");
                }
                edges.answers(floor, right ? 1 : 0, "fits");
            }
        }
        String[] noWays = {"hole 0", "hole 35", "hole 12 to 17"};
        for (String holes : noWays) {
            edges.refused(() -> Edges.told(holes + "; heard 0 35 99"), Due.NONE, "wrong");
            edges.answers(() -> Edges.told(holes + "; heard 0 35 98"), 0, "wrong");
            edges.answers(() -> Edges.told(holes + "; heard 0 35 20"), 0, "wrong");
        }
        edges.refused(() -> Edges.told("hole 7; heard 7 7 99"), Due.NONE, "wrong");
        edges.answers(() -> Edges.told("hole 7; heard 7 7 0"), 0, "wrong");
    }

    // ---- promise 27

    private static void fitsNoneAndAll() {
        for (int many = 0; many <= 4; many++) {
            edges.answers(unsure(many), MAPS[many], "fits");
            String none = UNSURE[many] + "; heard 5 5 1";
            edges.answers(() -> Edges.told(none), 0, "fits");
        }
        edges.answers(() -> Edges.told("unsure 1; unsure 2; unsure 3; unsure 4; heard 0 1 2; heard 1 2 2; heard 2 3 2; heard 3 4 2"), 1, "fits");
        edges.onlyTells(FULL, "fits");
    }

    // ---- promise 28

    private static void mapEnds() {
        edges.ends(USUAL, 0, 0, 2, "map", 1);
        for (int many = 0; many <= 4; many++) {
            edges.answers(unsure(many), 0, "map", 0);
            edges.answers(unsure(many), 0, "map", 1);
            edges.answers(unsure(many), MAPS[many] - 1, "map", 2);
        }
        for (int what = 0; what <= 2; what++) {
            edges.refused(NONE_FITS, Due.NONE, "map", what);
            edges.refused(() -> Edges.told("heard 5 5 1"), Due.NONE, "map", what);
            edges.onlyTells(USUAL, "map", what);
        }
        edges.refused(NONE_FITS, Due.BEYOND, "map", 3);
        edges.refused(NONE_FITS, Due.BEYOND, "map", -1);
    }

    private static void mapNearest() {
        edges.answers(() -> Edges.told("iron 1 to 4; unsure 1; unsure 2; unsure 3; unsure 4"), 624, "map", 1);
        String fourOther = "heard 0 1 1; heard 1 2 1; heard 2 3 1; heard 3 4 1";
        edges.answers(() -> Edges.told("unsure 1; unsure 2; unsure 3; unsure 4; " + fourOther), 624, "map", 1);
        // By 5 to 2 it is water and rock, or rock and water: each is one other than now, or two.
        edges.answers(() -> Edges.told("unsure 1; unsure 2; heard 0 2 5"), 3, "map", 1);
        edges.answers(() -> Edges.told("unsure 2; unsure 1; heard 0 2 5"), 3, "map", 1);
        edges.answers(() -> Edges.told("iron 1 to 2; unsure 2; unsure 1; heard 0 2 5"), 3, "map", 1);
        edges.answers(() -> Edges.told("iron 1; water 2; unsure 1; unsure 2; heard 0 2 5"), 15, "map", 1);
    }

    // ---- promise 29

    private static void mayEnds() {
        edges.ends(USUAL, 0, 0, 1, "may", 1);
        edges.ends(FULL, 0, 0, 3, "may", 1);
        for (int i : new int[] {-1, 0, 1, 4}) {
            edges.refused(EMPTY, Due.BEYOND, "may", i);
        }
        for (int many = 1; many <= 4; many++) {
            edges.answers(unsure(many), 31, "may", 0);
            edges.answers(unsure(many), 31, "may", many - 1);
            edges.refused(unsure(many), Due.BEYOND, "may", many);
        }
        edges.onlyTells(FULL, "may", 3);
    }

    private static void mayNoneAndAll() {
        for (int i = 0; i <= 3; i++) {
            edges.answers(NONE_FITS, 0, "may", i);
        }
        int[] times = {2, 6, 99, 3, 1};
        for (int stuff = 0; stuff <= 4; stuff++) {
            String told = "unsure 35; unsure 1; heard 0 1 " + times[stuff];
            edges.answers(() -> Edges.told(told), 1 << stuff, "may", 1);
            edges.answers(() -> Edges.told(told), 31, "may", 0);
        }
    }

    // ---- promise 30

    private static void laysEnds() {
        for (int many = 1; many <= 4; many++) {
            edges.ends(unsure(many), 0, 0, MAPS[many] - 1, "lays", 1);
        }
        edges.ends(FULL, 0, 0, 624, "lays", 1);
    }

    private static void laysNoUnsure() {
        edges.refused(EMPTY, Due.STATE, "lays", 0);
        for (int map : new int[] {-1, 1, 4, 5, 625, Integer.MIN_VALUE, Integer.MAX_VALUE}) {
            edges.refused(EMPTY, Due.BEYOND, "lays", map);
        }
    }

    private static void laysDigits() {
        int[] cells = {1, 35, 7, 8};
        int worth = 1;
        for (int digit = 0; digit < 4; digit++) {
            RingingRock x = unsure(4).get();
            due.is("all were of rock", x.lays(4 * worth), 0);
            due.is("iron", x.cells(4), 1L << cells[digit]);
            due.is("the least digit of it", x.lays(worth), 4 * worth);
            due.is("rubble", x.cells(1), 1L << cells[digit]);
            due.is("the greatest map", x.lays(624), worth);
            due.is("all of iron", x.cells(4), Due.set(1, 7, 8, 35));
            due.is("the least map", x.lays(0), 624);
            due.is("all of rock", x.cells(0), Edges.ALL);
            worth *= 5;
        }
    }

    // ---- promise 31

    private static void asksEnds() {
        edges.ends(USUAL, 0, 0, 35, "asks", 3);
        edges.ends(() -> Edges.told("crew; unsure 1"), 0, 0, 35, "asks", 3);
        edges.onlyTells(USUAL, "asks", 33);
    }

    private static void asksOfNone() {
        edges.refused(EMPTY, Due.NONE, "asks", 0);
        edges.refused(EMPTY, Due.BEYOND, "asks", 36);
        edges.refused(unsure(4), Due.NONE, "asks", 0);
        edges.refused(NONE_FITS, Due.NONE, "asks", 0);
        edges.refused(NONE_FITS, Due.BEYOND, "asks", 36);
        edges.refused(NONE_FITS, Due.BEYOND, "asks", -1);
        edges.refused(() -> Edges.told("crew; heard 3 3 1"), Due.NONE, "asks", 0);
        edges.answers(() -> Edges.told("crew"), 0, "asks", 0);
        edges.answers(() -> Edges.told("crew; hole 0"), 0, "asks", 0);
    }

    private static void asksTies() {
        edges.answers(() -> Edges.told("crew; crew; crew; crew; crew; crew"), 0, "asks", 35);
        edges.answers(() -> Edges.told("crew at 35; mute at 2; crew at 2; unsure 1; hole 7; hole 8"), 1, "asks", 0);
        edges.answers(() -> Edges.told("crew; crew; crew; crew; crew; crew at 2; hole 6 to 8; unsure 1"), 0, "asks", 2);
        edges.answers(() -> Edges.told("crew; crew; crew; crew; crew; crew at 2; hole 6 to 8; unsure 1"), 5, "asks", 0);
        // The one is heard always by 0, the other never or by 2.
        edges.answers(() -> Edges.told("crew at 5; crew at 4; unsure 4; hole 10 to 11"), 1, "asks", 5);
        edges.answers(() -> Edges.told("crew at 4; crew at 5; unsure 4; hole 10 to 11"), 0, "asks", 5);
    }

    /** Times above 99 are unlike one another, and unlike none. */
    private static void asksFarTimes() {
        for (int time : new int[] {100, 120, 127, 128, 133, 138}) {
            int end = new Way(time).end;
            Supplier<RingingRock> nearAhead = () -> farAndNear(time, end, 0);
            edges.answers(nearAhead, 1, "asks", end);
            Supplier<RingingRock> farAhead = () -> farAndNear(time, 0, end);
            edges.answers(farAhead, 0, "asks", end);
        }
    }

    /** The way's second cell is unsure, so that from its begin the time is not sure, and from its end it is. */
    private static RingingRock farAndNear(int time, int one, int other) {
        Way way = new Way(time);
        way.crew(5, one, 1);
        way.crew(6, other, 1);
        way.x.unsure(Way.PATH[1]);
        return way.x;
    }

    /**
     * Crew 0 at 7 may go round the unsure cell 1, by rubble; crew 1 at 0 may not. So of the five
     * stuffs it is 4 unlike times for the one, and 5 for the other, wherever they hear it.
     */
    private static void asksFourOrFiveTimes() {
        int[] way = {2, 3, 4, 5, 11, 17, 23, 22, 21, 20, 19, 18, 24, 30, 31, 32, 33, 34, 35};
        RingingRock x = Edges.told("hole 0 to 35; rock 0; rock 7; rubble 8; unsure 1; crew at 7; crew at 0; mute at 8");
        for (int cell : way) {
            int[] stuffs = {4, 0, 3, 1};
            for (int stuff : stuffs) {
                x.stuff(cell, stuff);
                due.is("4 or 5 unlike times to " + cell, x.asks(cell), 1);
            }
        }
        due.is("here there are times by more than 99", x.time(7, 35), 120);
        for (int i = 0; i < 19; i++) {
            x.stuff(way[i], 4);
            due.is("4 or 5 unlike times by " + x.time(7, 35), x.asks(35), 1);
            x.stuff(way[i], 0);
            due.is("4 or 5 unlike times by " + x.time(7, 35), x.asks(35), 1);
        }
    }

    /** One time, whichever it is, is more than no time; so is none. */
    private static void asksOneTime() {
        for (int time = 0; time <= 133; time++) {
            Way way = new Way(time);
            way.crew(5, 0, 1);
            due.is("one time, " + time, way.x.asks(way.end), 0);
            way.x.stuff(0, 2);
            due.is("one time, none", way.x.asks(way.end), 0);
        }
    }

    /** To the way's end one comes from its begin, one from behind it, each by a cell that is unsure: of both there are five times. */
    private static void asksFiveTimesOfTwo() {
        for (int time = 7; time <= 120; time++) {
            Way way = new Way(time);
            int end = 0;
            while (Way.PATH[end] != way.end) {
                end++;
            }
            way.crew(5, 0, 1);
            way.crew(5, Way.PATH[end + 2], 1);
            way.x.stuff(Way.PATH[end + 2], 0);
            way.x.unsure(Way.PATH[end + 1]);
            way.x.unsure(Way.PATH[1]);
            due.is("five times of both, about " + time, way.x.asks(way.end), 0);
            way.x.change(0, 1, Way.PATH[1]);
            due.is("two times of the first, five of the other", way.x.asks(way.end), 1);
        }
    }

    /** What was asked before is all one. */
    private static void asksAgain() {
        RingingRock x = Edges.told("crew at 2; crew at 30; unsure 1");
        due.is("of five times", x.asks(0), 0);
        x.change(0, 1, 30);
        x.change(1, 1, 2);
        due.is("of five times", x.asks(0), 1);
        x.change(1, 1, 30);
        due.is("of one time", x.asks(0), 0);
        x.sure();
        due.is("of one time", x.asks(0), 0);
    }
}
