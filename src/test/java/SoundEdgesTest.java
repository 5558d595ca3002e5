import java.util.function.Supplier;

/** The boundaries of promises 9 to 19: sound. */
public final class SoundEdgesTest {

    private static final Edges edges = new Edges();
    private static final Due due = edges.due;
    private static final Supplier<RingingRock> EMPTY = Edges::empty;
    private static final Supplier<RingingRock> USUAL = Edges::usual;
    private static final Supplier<RingingRock> FULL = Edges::full;
    private static final Supplier<RingingRock> HOLES = () -> {
        RingingRock x = Edges.usual();
        x.stuff(20, 2);
        x.stuff(26, 2);
        return x;
    };

    private static final int MUTE = 5;
    private static final int DEAF = 6;
    private static final int[] STARTS = {0, 0, 1, 2, 2, 2, 0};
    private static final int[] HEARS_BY = {60, 60, 60, 40, 30, 30, -1};
    private static final int ALL_HOURS = 0x7fffffff;

    public static void main(String[] args) {
        timeEnds();
        timeFromHolesAndToItself();
        longestTimes();
        heardEnds();
        heardByAllThatIsCarried();
        reachEnds();
        reachEmptyAndFull();
        hearsEnds();
        hearsByTime();
        hearsAllButItself();
        echoEnds();
        echoOfNoHole();
        echoByAllThatIsCarried();
        echoOfHoleAmongHoles();
        echoInCorners();
        chordEnds();
        chordHasSoMany();
        chordOfEachCrewAndHole();
        lastEnds();
        lastOfItsOwnAndUnheard();
        manyEnds();
        silentEmptyAndFull();
        lagEnds();
        apartEnds();
        apartByHours();
        apartInOneCellAlone();
        due.end();
    }

    private static int carries(int kind, int force) {
        return new int[] {4 * force, 8 * force, 8 * force + 5, 9 * force + 5, 2 * force, 0, 4 * force}[kind];
    }

    /** A way of a time, at the begin of which there is a crew. */
    private static Supplier<RingingRock> way(int time, int kind, int force) {
        return () -> {
            Way way = new Way(time);
            way.crew(kind, 0, force);
            return way.x;
        };
    }

    /** The same with another crew at the way's end. */
    private static Supplier<RingingRock> wayOfTwo(int time, int kind, int kindAtEnd) {
        return () -> {
            Way way = new Way(time);
            way.crew(kind, 0, 20);
            way.crew(kindAtEnd, way.end, 20);
            return way.x;
        };
    }

    private static int end(int time) {
        return new Way(time).end;
    }

    // ---- promise 9

    private static void timeEnds() {
        edges.ends(USUAL, 0, 0, 35, "time", 3, 4);
        edges.ends(USUAL, 1, 0, 35, "time", 3, 4);
        edges.refused(USUAL, Due.BEYOND, "time", 36, -1);
        edges.onlyTells(USUAL, "time", 0, 35);
    }

    private static void timeFromHolesAndToItself() {
        for (int c : new int[] {0, 14, 35}) {
            Supplier<RingingRock> hole = () -> Edges.told("hole " + c);
            edges.refused(hole, Due.NONE, "time", c, c);
            edges.refused(hole, Due.NONE, "time", c, 1);
            edges.refused(hole, Due.NONE, "time", 1, c);
            for (String stuff : new String[] {"rock", "rubble", "water", "iron"}) {
                edges.answers(() -> Edges.told(stuff + " " + c), 0, "time", c, c);
            }
        }
        Supplier<RingingRock> parted = () -> Edges.told("hole 12 to 17");
        edges.refused(parted, Due.NONE, "time", 11, 18);
        edges.refused(parted, Due.NONE, "time", 18, 11);
        edges.answers(parted, 12, "time", 5, 6);
        edges.refused(() -> Edges.told("hole 0 to 35"), Due.NONE, "time", 0, 1);
    }

    private static void longestTimes() {
        for (int time : new int[] {0, 1, 2, 3, 4, 5, 6, 7, 63, 64, 65, 98, 99, 100, 127, 128, 133, 138}) {
            edges.answers(() -> new Way(time).x, time, "time", 0, end(time));
        }
    }

    // ---- promise 10

    private static void heardEnds() {
        edges.ends(USUAL, 0, 0, 3, "heard", 1, 4);
        edges.ends(FULL, 0, 0, 5, "heard", 1, 34);
        edges.ends(USUAL, 1, 0, 35, "heard", 1, 4);
        edges.refused(EMPTY, Due.BEYOND, "heard", 0, 0);
        edges.onlyTells(USUAL, "heard", 3, 0);
    }

    private static void heardByAllThatIsCarried() {
        for (int kind = 0; kind <= 6; kind++) {
            for (int force : new int[] {1, 2, 6, 13, 14, 20}) {
                int carries = carries(kind, force);
                if (carries < 133) {
                    edges.answers(way(carries, kind, force), carries + STARTS[kind], "heard", 0, end(carries));
                    edges.refused(way(carries + 1, kind, force), Due.NONE, "heard", 0, end(carries + 1));
                }
            }
            edges.answers(way(0, kind, 1), STARTS[kind], "heard", 0, 0);
        }
        edges.refused(() -> Edges.told("bell at 35 force 20; hole 35"), Due.NONE, "heard", 0, 35);
    }

    // ---- promise 11

    private static void reachEnds() {
        edges.ends(USUAL, 0, 0, 3, "reach", 1);
        edges.ends(FULL, 0, 0, 5, "reach", 1);
        edges.refused(EMPTY, Due.BEYOND, "reach", 0);
        edges.onlyTells(FULL, "reach", 4);
    }

    private static void reachEmptyAndFull() {
        edges.answers(() -> Edges.told("bell force 20"), Edges.ALL, "reach", 0);
        edges.answers(() -> Edges.told("bell force 20; hole 0"), 0, "reach", 0);
        edges.answers(() -> Edges.told("mute at 35 force 20"), 1L << 35, "reach", 0);
        for (int kind = 0; kind <= 6; kind++) {
            int carries = carries(kind, 6);
            int in = end(carries);
            due.is("reached by just what is carried", way(carries, kind, 6).get().reach(0) >> in & 1, 1);
            int out = end(carries + 1);
            due.is("not by one more", way(carries + 1, kind, 6).get().reach(0) >> out & 1, 0);
        }
    }

    // ---- promise 12

    private static void hearsEnds() {
        edges.ends(USUAL, 0, 0, 3, "hears", 1);
        edges.ends(FULL, 0, 0, 5, "hears", 1);
        edges.refused(EMPTY, Due.BEYOND, "hears", 0);
        edges.onlyTells(FULL, "hears", 0);
    }

    private static void hearsByTime() {
        for (int kind = 0; kind <= 6; kind++) {
            for (int knocker = 1; knocker <= 3; knocker++) {
                int time = HEARS_BY[kind] - STARTS[knocker];
                if (kind != DEAF) {
                    edges.answers(wayOfTwo(time, knocker, kind), 1, "hears", 1);
                }
                edges.answers(wayOfTwo(Math.max(0, time + 1), knocker, kind), 0, "hears", 1);
            }
        }
    }

    private static void hearsAllButItself() {
        Supplier<RingingRock> six = () -> Edges.told("crew; hammer; drill; bell; soft; mute");
        for (int crew = 0; crew < 6; crew++) {
            edges.answers(six, 63 & ~(1 << crew), "hears", crew);
        }
        edges.answers(() -> Edges.told("crew"), 0, "hears", 0);
        edges.answers(() -> Edges.told("crew; crew; deaf"), 0, "hears", 2);
        edges.answers(() -> Edges.told("crew; crew; hole 0"), 0, "hears", 0);
    }

    // ---- promise 13

    private static void echoEnds() {
        edges.ends(HOLES, 0, 0, 3, "echo", 1, 4, 20);
        edges.ends(HOLES, 1, 0, 35, "echo", 1, 4, 26);
        Supplier<RingingRock> corners = () -> Edges.told("hole 0; hole 35; bell at 14 force 20");
        edges.ends(corners, 2, 0, 35, "echo", 0, 15, 0);
        edges.refused(EMPTY, Due.BEYOND, "echo", 0, 0, 0);
        edges.onlyTells(HOLES, "echo", 1, 4, 20);
    }

    private static void echoOfNoHole() {
        for (String stuff : new String[] {"rock", "rubble", "water", "iron"}) {
            Supplier<RingingRock> noHole = () -> Edges.told("hole 0 to 35; mute; " + stuff + " 7");
            edges.refused(noHole, Due.STATE, "echo", 0, 35, 7);
            edges.refused(noHole, Due.BEYOND, "echo", 1, 35, 7);
            edges.refused(noHole, Due.BEYOND, "echo", 0, 36, 7);
            edges.refused(noHole, Due.NONE, "echo", 0, 35, 8);
        }
    }

    /** The hole 1 lies beside the way's begin: back from it sound goes the whole way, and 1 more. */
    private static void echoByAllThatIsCarried() {
        for (int kind = 0; kind <= 6; kind++) {
            for (int force : new int[] {1, 2, 6, 13, 14, 20}) {
                int carries = carries(kind, force);
                if (kind != MUTE && carries < 133) {
                    edges.answers(way(carries - 1, kind, force), carries + STARTS[kind], "echo", 0, end(carries - 1), 1);
                }
                if (carries < 133) {
                    edges.refused(way(carries, kind, force), Due.NONE, "echo", 0, end(carries), 1);
                }
            }
        }
    }

    private static void echoOfHoleAmongHoles() {
        edges.refused(() -> Edges.told("hole 0 to 2; hole 6; bell at 35 force 20"), Due.NONE, "echo", 0, 35, 0);
        edges.answers(() -> Edges.told("hole 0 to 1; bell at 6"), 3, "echo", 0, 6, 0);
        edges.refused(() -> Edges.told("hole 6 to 7; bell at 7 force 20"), Due.NONE, "echo", 0, 35, 6);
        edges.refused(() -> Edges.told("hole 6 to 7; bell at 35 force 20"), Due.NONE, "echo", 0, 7, 6);
    }

    /** A hole beside a corner, which lies beside nothing else that sound comes into. */
    private static void echoInCorners() {
        int[] corners = {0, 5, 30, 35};
        int[] beside = {1, 4, 24, 29};
        for (int i = 0; i < 4; i++) {
            String told = "hole 0 to 35; rock " + corners[i] + "; crew at " + corners[i];
            edges.answers(() -> Edges.told(told), 1, "echo", 0, corners[i], beside[i]);
            edges.answers(() -> Edges.told(told), 1, "chord", 0, corners[i], 0);
        }
    }

    // ---- promise 14

    private static void chordEnds() {
        edges.ends(HOLES, 0, 0, 3, "chord", 1, 4, 0);
        edges.ends(HOLES, 1, 0, 35, "chord", 1, 4, 0);
        for (int i : new int[] {-1, 36, Integer.MIN_VALUE, Integer.MAX_VALUE}) {
            edges.refused(HOLES, Due.BEYOND, "chord", 1, 4, i);
        }
        edges.refused(HOLES, Due.NONE, "chord", 1, 4, 35);
        edges.refused(EMPTY, Due.BEYOND, "chord", 0, 0, 0);
        edges.refused(USUAL, Due.NONE, "chord", 1, 4, 0);
        edges.onlyTells(HOLES, "chord", 1, 4, 0);
    }

    /** Of the holes 2 and 12 the echo comes by 5, of 4 by 21, of 35 by 37. */
    private static void chordHasSoMany() {
        int[] times = {5, 21, 37};
        int[] forces = {1, 2, 6, 10};
        for (int many = 0; many <= 3; many++) {
            int force = forces[many];
            Supplier<RingingRock> floor = () -> Edges.told("hole 2; hole 12; hole 4; hole 35; crew force " + force);
            for (int i = 0; i < many; i++) {
                edges.answers(floor, times[i], "chord", 0, 0, i);
            }
            edges.refused(floor, Due.NONE, "chord", 0, 0, many);
            edges.refused(floor, Due.NONE, "chord", 0, 0, many + 1);
        }
        edges.refused(() -> Edges.told("hole 0 to 35; crew"), Due.NONE, "chord", 0, 0, 0);
        edges.refused(() -> Edges.told("hole 1; mute"), Due.NONE, "chord", 0, 0, 0);
    }

    /** The mute one is heard by no echo, the other two by unlike ones; of the holes 0 and 35, too. */
    private static void chordOfEachCrewAndHole() {
        Supplier<RingingRock> floor = () -> Edges.told("hole 0; hole 35; mute at 1; bell at 1 force 20; crew at 34 force 20");
        edges.refused(floor, Due.NONE, "chord", 0, 1, 0);
        edges.answers(floor, 3, "chord", 1, 1, 0);
        edges.answers(floor, 35, "chord", 1, 1, 1);
        edges.refused(floor, Due.NONE, "chord", 1, 1, 2);
        edges.answers(floor, 1, "chord", 2, 34, 0);
        edges.answers(floor, 33, "chord", 2, 34, 1);
        edges.refused(floor, Due.NONE, "chord", 2, 34, 2);
        edges.refused(floor, Due.NONE, "chord", 0, 35, 0);
    }

    // ---- promise 15

    private static void lastEnds() {
        edges.ends(USUAL, 0, 0, 3, "last", 1, 4);
        edges.ends(USUAL, 1, 0, 35, "last", 3, 4);
        edges.refused(EMPTY, Due.BEYOND, "last", 0, 0);
        edges.onlyTells(USUAL, "last", 1, 35);
        for (int kind = 0; kind <= 6; kind++) {
            int carries = carries(kind, 6);
            if (kind != MUTE) {
                edges.answers(way(carries, kind, 6), new Way(carries).aheadOfEnd, "last", 0, end(carries));
            }
            edges.refused(way(carries + 1, kind, 6), Due.NONE, "last", 0, end(carries + 1));
        }
    }

    private static void lastOfItsOwnAndUnheard() {
        for (int c : new int[] {0, 14, 35}) {
            edges.refused(() -> Edges.told("mute at " + c), Due.STATE, "last", 0, c);
            edges.refused(() -> Edges.told("mute at " + c + "; hole " + c), Due.NONE, "last", 0, c);
            edges.refused(() -> Edges.told("mute at " + c), Due.NONE, "last", 0, c == 0 ? 1 : c - 1);
        }
        edges.answers(() -> Edges.told("crew at 14"), 8, "last", 0, 7);
        edges.answers(() -> Edges.told("crew at 14"), 15, "last", 0, 21);
        edges.answers(() -> Edges.told("crew at 6"), 0, "last", 0, 1);
        edges.answers(() -> Edges.told("crew at 0"), 0, "last", 0, 1);
        edges.answers(() -> Edges.told("crew at 35"), 35, "last", 0, 34);
        edges.answers(() -> Edges.told("crew at 29"), 28, "last", 0, 34);
        edges.answers(() -> Edges.told("rubble 28; crew at 29"), 35, "last", 0, 34);
        edges.answers(() -> Edges.told("iron 35; crew at 29"), 35, "last", 0, 34);
    }

    // ---- promise 16

    private static void manyEnds() {
        edges.ends(USUAL, 0, 0, 35, "many", 3);
        edges.answers(EMPTY, 0, "many", 0);
        Supplier<RingingRock> six = () -> Edges.told("crew at 7; hammer at 7; drill at 7; bell at 7; soft at 7; mute at 7");
        edges.answers(six, 6, "many", 7);
        edges.answers(six, 5, "many", 8);
        edges.answers(() -> Edges.told("crew at 7; bell at 7; deaf at 8; hole 7"), 0, "many", 7);
        edges.answers(() -> Edges.told("deaf at 7"), 1, "many", 7);
        edges.onlyTells(FULL, "many", 35);
    }

    // ---- promise 17

    private static void silentEmptyAndFull() {
        edges.answers(EMPTY, Edges.ALL, "silent");
        edges.answers(() -> Edges.told("hole 35"), Edges.ALL >> 1, "silent");
        edges.answers(() -> Edges.told("hole 0 to 35"), 0, "silent");
        edges.answers(() -> Edges.told("bell force 20"), 0, "silent");
        edges.answers(() -> Edges.told("bell at 35 force 20; hole 35"), Edges.ALL >> 1, "silent");
        edges.answers(() -> Edges.told("hole 0 to 35; rock 35; mute at 35"), 0, "silent");
        edges.onlyTells(FULL, "silent");
        for (int kind = 0; kind <= 6; kind++) {
            int carries = carries(kind, 6);
            int in = end(carries);
            due.is("what is just carried", way(carries, kind, 6).get().silent() >> in & 1, 0);
            int out = end(carries + 1);
            due.is("and one more", way(carries + 1, kind, 6).get().silent() >> out & 1, 1);
        }
    }

    // ---- promise 18

    private static void lagEnds() {
        edges.ends(USUAL, 0, 0, 3, "lag", 0, 1, 4);
        edges.ends(USUAL, 1, 0, 3, "lag", 1, 0, 4);
        edges.ends(USUAL, 2, 0, 35, "lag", 1, 2, 4);
        for (int crew = 0; crew <= 3; crew++) {
            edges.refused(USUAL, Due.BEYOND, "lag", crew, crew, 4);
        }
        edges.refused(EMPTY, Due.BEYOND, "lag", 0, 1, 0);
        edges.refused(() -> Edges.told("crew"), Due.BEYOND, "lag", 0, 1, 0);
        Supplier<RingingRock> floor = () -> Edges.told("crew; mute at 2; hole 14");
        edges.answers(floor, -2, "lag", 0, 1, 2);
        edges.answers(floor, 2, "lag", 1, 0, 2);
        edges.refused(floor, Due.NONE, "lag", 0, 1, 1);
        edges.refused(floor, Due.NONE, "lag", 1, 0, 1);
        edges.refused(floor, Due.NONE, "lag", 1, 0, 14);
        edges.answers(() -> Edges.told("crew; crew"), 0, "lag", 0, 1, 0);
        edges.onlyTells(USUAL, "lag", 1, 2, 4);
    }

    // ---- promise 19

    private static void apartEnds() {
        edges.ends(USUAL, 0, 0, 3, "apart", 0, 1);
        edges.ends(USUAL, 1, 0, 3, "apart", 1, 0);
        for (int crew = 0; crew <= 3; crew++) {
            edges.refused(USUAL, Due.BEYOND, "apart", crew, crew);
        }
        edges.refused(EMPTY, Due.BEYOND, "apart", 0, 1);
        edges.refused(() -> Edges.told("crew"), Due.BEYOND, "apart", 0, 1);
        edges.onlyTells(USUAL, "apart", 1, 2);
    }

    /** A mute one is heard at the way's end alone, by 2: so it is but there that both are heard. */
    private static void apartByHours() {
        int[] times = {1, 2, 3, 31, 32, 33, 34, 64};
        for (int time : times) {
            int hours = time - 2;
            int spoilt = hours >= 0 && hours <= 30 ? 1 << hours : 0;
            edges.answers(wayOfTwo(time, 1, MUTE), ALL_HOURS & ~spoilt, "apart", 0, 1);
            edges.answers(wayOfTwo(time, 1, MUTE), ALL_HOURS & ~(hours == -1 || hours == 0 ? 1 << -hours : 0), "apart", 1, 0);
        }
        edges.answers(() -> Edges.told("hole 0; crew; crew"), ALL_HOURS, "apart", 0, 1);
        edges.answers(() -> Edges.told("mute; mute"), ALL_HOURS & ~1, "apart", 0, 1);
    }

    private static void apartInOneCellAlone() {
        for (int c : new int[] {0, 1, 34, 35}) {
            String alone = "hole 0 to 35; rock " + c + "; ";
            edges.answers(() -> Edges.told(alone + "crew at " + c + "; deaf at " + c), ALL_HOURS & ~1, "apart", 0, 1);
            edges.answers(() -> Edges.told(alone + "drill at " + c + "; crew at " + c), ALL_HOURS & ~2, "apart", 0, 1);
            edges.answers(() -> Edges.told(alone + "soft at " + c + "; crew at " + c), ALL_HOURS & ~4, "apart", 0, 1);
            edges.answers(() -> Edges.told(alone + "crew at " + c + "; soft at " + c), ALL_HOURS, "apart", 0, 1);
        }
    }
}
