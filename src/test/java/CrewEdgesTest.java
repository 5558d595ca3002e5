import java.util.function.Supplier;

/** The boundaries of 'Terms' 1 and of promises 1 to 8: a new object, cells, crews, unsure cells. */
public final class CrewEdgesTest {

    private static final Edges edges = new Edges();
    private static final Due due = edges.due;
    private static final Supplier<RingingRock> EMPTY = Edges::empty;
    private static final Supplier<RingingRock> USUAL = Edges::usual;
    private static final Supplier<RingingRock> FULL = Edges::full;

    public static void main(String[] args) {
        newObjectHoldsNothing();
        newObjectsShareNothing();
        whatLiesBesideACell();
        stuffEnds();
        crewEnds();
        atMostSixCrews();
        crewAtFirst();
        ofEnds();
        noCrewIsNone();
        eachOfSix();
        changeEnds();
        changeOneOfSix();
        forceEnds();
        cellsEnds();
        cellsEmptyAndFull();
        unsureEnds();
        atMostFourUnsure();
        unsureAlready();
        sureEmptyAndFull();
        due.end();
    }

    // ---- promise 1

    private static void newObjectHoldsNothing() {
        int[] counts = {0, 0, 0, 0, 0, 0, 1, 0};
        for (int what = 0; what < counts.length; what++) {
            edges.answers(EMPTY, counts[what], "count", what);
        }
        for (int which = -1; which <= 6; which++) {
            edges.answers(EMPTY, 0, "status", which);
        }
        edges.answers(EMPTY, Edges.ALL, "cells", 0);
        edges.answers(EMPTY, 0, "burn");
        edges.answers(EMPTY, 0, "sure");
        edges.answers(EMPTY, 0, "wipe");
        edges.answers(EMPTY, 0, "tear");
        edges.answers(EMPTY, 1, "seed", 0);
        edges.refused(EMPTY, Due.NONE, "undo");
        for (int spot = 0; spot <= 9; spot++) {
            edges.refused(EMPTY, Due.MISSING, "as", spot, 0);
        }
        for (int s = 0; s <= 3; s++) {
            edges.refused(EMPTY, Due.MISSING, "load", s);
        }
    }

    private static void newObjectsShareNothing() {
        RingingRock first = Edges.full();
        first.stuff(36, 0);
        RingingRock second = new RingingRock();
        for (int which = -1; which <= 6; which++) {
            due.is("status of another object", second.status(which), 0);
        }
        edges.alike("another object that is used", second, new RingingRock());
    }

    // ---- Terms 1

    /** Between holes time tells of any two cells whether they lie beside one another. */
    private static void whatLiesBesideACell() {
        for (int c = 0; c < 36; c++) {
            RingingRock x = Edges.told("hole 0 to 35");
            x.stuff(c, 4);
            for (int other = 0; other < 36; other++) {
                if (other != c) {
                    x.stuff(other, 4);
                    int steps = Math.abs(c / 6 - other / 6) + Math.abs(c % 6 - other % 6);
                    due.is("from " + c + " to " + other, x.time(c, other), steps == 1 ? 1 : Due.NONE);
                    x.stuff(other, 2);
                }
            }
        }
    }

    // ---- promise 2

    private static void stuffEnds() {
        edges.ends(USUAL, 0, 0, 35, "stuff", 3, 1);
        edges.ends(USUAL, 1, 0, 4, "stuff", 3, 1);
        edges.refused(USUAL, Due.BEYOND, "stuff", 36, 5);
        edges.answers(USUAL, 1, "stuff", 7, 1);
        edges.answers(USUAL, 0, "stuff", 0, 4);
        edges.answers(() -> Edges.told("iron 35"), 4, "stuff", 35, 0);
        edges.onlyTells(USUAL, "stuff", 7, 1);
    }

    // ---- promise 3

    private static void crewEnds() {
        edges.ends(USUAL, 0, 0, 6, "crew", 1, 3);
        edges.ends(USUAL, 1, 0, 35, "crew", 1, 3);
        edges.ends(EMPTY, 0, 0, 6, "crew", 1, 3);
        edges.refused(USUAL, Due.BEYOND, "crew", 7, 36);
    }

    private static void atMostSixCrews() {
        edges.answers(EMPTY, 0, "crew", 0, 0);
        edges.answers(() -> Edges.told("crew; crew; crew; crew; crew"), 5, "crew", 6, 35);
        edges.refused(() -> Edges.told("crew; crew; crew; crew; crew; crew"), Due.FULL, "crew", 6, 35);
        edges.refused(FULL, Due.FULL, "crew", 0, 0);
        edges.refused(FULL, Due.BEYOND, "crew", 7, 0);
        edges.refused(FULL, Due.BEYOND, "crew", 0, 36);
    }

    private static void crewAtFirst() {
        for (int i = 0; i < 6; i++) {
            RingingRock x = new RingingRock();
            for (int k = 0; k <= i; k++) {
                due.is("number", x.crew(i, 35 - i), k);
            }
            due.is("kind", x.of(i, 0), i);
            due.is("cell", x.of(i, 1), 35 - i);
            due.is("force at first", x.of(i, 2), 6);
        }
    }

    // ---- promise 4

    private static void ofEnds() {
        edges.ends(USUAL, 0, 0, 3, "of", 1, 0);
        edges.ends(FULL, 0, 0, 5, "of", 1, 0);
        edges.ends(USUAL, 1, 0, 5, "of", 1, 0);
        edges.refused(EMPTY, Due.BEYOND, "of", 0, 0);
        edges.answers(FULL, 60, "of", 0, 5);
        edges.answers(FULL, -1, "of", 4, 5);
        edges.onlyTells(FULL, "of", 4, 5);
    }

    private static void noCrewIsNone() {
        edges.refused(EMPTY, Due.BEYOND, "of", -1, 0);
        for (int what = 0; what <= 2; what++) {
            edges.refused(EMPTY, Due.BEYOND, "change", 0, what, 1);
        }
    }

    private static RingingRock sixUnlike() {
        RingingRock x = new RingingRock();
        for (int crew = 0; crew < 6; crew++) {
            x.crew(5 - crew, 30 + crew);
            x.change(crew, 2, 1 + crew);
        }
        return x;
    }

    private static void eachOfSix() {
        int[] carries = {0, 4, 32, 37, 40, 24};
        int[] starts = {2, 2, 2, 1, 0, 0};
        int[] hearsBy = {30, 30, 40, 60, 60, 60};
        for (int crew = 0; crew < 6; crew++) {
            int[] told = {5 - crew, 30 + crew, 1 + crew, carries[crew], starts[crew], hearsBy[crew]};
            for (int what = 0; what <= 5; what++) {
                edges.answers(CrewEdgesTest::sixUnlike, told[what], "of", crew, what);
            }
        }
    }

    // ---- promise 5

    private static void changeEnds() {
        edges.ends(USUAL, 0, 0, 3, "change", 1, 0, 1);
        edges.ends(FULL, 0, 0, 5, "change", 1, 0, 1);
        edges.ends(USUAL, 1, 0, 2, "change", 1, 1, 1);
        edges.ends(USUAL, 2, 0, 6, "change", 1, 0, 1);
        edges.ends(USUAL, 2, 0, 35, "change", 1, 1, 1);
        edges.ends(USUAL, 2, 1, 20, "change", 1, 2, 1);
        edges.refused(USUAL, Due.BEYOND, "change", 4, 3, 36);
        edges.answers(USUAL, 3, "change", 3, 0, 6);
        edges.answers(USUAL, 35, "change", 2, 1, 0);
        edges.answers(USUAL, 20, "change", 2, 2, 1);
    }

    /** Of six that are unlike one becomes other by one thing, to its least and to its greatest value. */
    private static void changeOneOfSix() {
        int[] least = {0, 0, 1};
        int[] greatest = {6, 35, 20};
        for (int crew = 0; crew < 6; crew++) {
            for (int what = 0; what <= 2; what++) {
                for (int v : new int[] {least[what], greatest[what]}) {
                    int was = new int[] {5 - crew, 30 + crew, 1 + crew}[what];
                    edges.answers(CrewEdgesTest::sixUnlike, was, "change", crew, what, v);
                    RingingRock x = sixUnlike();
                    x.change(crew, what, v);
                    due.is("it is so", x.of(crew, what), v);
                    x.change(crew, what, was);
                    edges.alike("changed and changed back", x, sixUnlike());
                }
            }
        }
    }

    private static void forceEnds() {
        int[] ofOne = {4, 8, 13, 14, 2, 0, 4};
        int[] ofTwenty = {80, 160, 165, 185, 40, 0, 80};
        for (int kind = 0; kind <= 6; kind++) {
            RingingRock x = new RingingRock();
            x.crew(kind, 0);
            due.is("at first", x.change(0, 2, 1), 6);
            due.is("least force", x.of(0, 2), 1);
            due.is("carries by force 1", x.of(0, 3), ofOne[kind]);
            due.is("greatest force", x.change(0, 2, 20), 1);
            due.is("carries by force 20", x.of(0, 3), ofTwenty[kind]);
        }
    }

    // ---- promise 6

    private static void cellsEnds() {
        edges.ends(USUAL, 0, 0, 4, "cells", 1);
    }

    private static void cellsEmptyAndFull() {
        String[] words = {"rock", "rubble", "hole", "water", "iron"};
        for (int stuff = 0; stuff <= 4; stuff++) {
            String all = words[stuff] + " 0 to 35";
            for (int other = 0; other <= 4; other++) {
                edges.answers(() -> Edges.told(all), other == stuff ? Edges.ALL : 0, "cells", other);
            }
            int one = stuff;
            Supplier<RingingRock> lastCell = () -> Edges.told((one == 0 ? "iron" : "rock") + " 0 to 34; " + words[one] + " 35");
            edges.answers(lastCell, 1L << 35, "cells", stuff);
        }
    }

    // ---- promise 7

    private static void unsureEnds() {
        edges.ends(USUAL, 0, 0, 35, "unsure", 3);
        edges.ends(EMPTY, 0, 0, 35, "unsure", 3);
    }

    private static void atMostFourUnsure() {
        edges.answers(EMPTY, 1, "unsure", 35);
        edges.answers(() -> Edges.told("unsure 1; unsure 2; unsure 3"), 4, "unsure", 0);
        edges.refused(() -> Edges.told("unsure 1; unsure 2; unsure 3; unsure 4"), Due.FULL, "unsure", 0);
        edges.refused(FULL, Due.FULL, "unsure", 1);
        edges.refused(FULL, Due.BEYOND, "unsure", 36);
        edges.refused(FULL, Due.BEYOND, "unsure", -1);
    }

    private static void unsureAlready() {
        edges.refused(USUAL, Due.STATE, "unsure", 33);
        edges.refused(USUAL, Due.STATE, "unsure", 8);
        for (int cell : new int[] {33, 8, 0, 35}) {
            edges.refused(FULL, Due.STATE, "unsure", cell);
        }
    }

    // ---- promise 8

    private static void sureEmptyAndFull() {
        edges.answers(EMPTY, 0, "sure");
        edges.answers(USUAL, 2, "sure");
        edges.answers(FULL, 4, "sure");
        RingingRock x = Edges.full();
        x.sure();
        due.is("none is unsure", x.count(4), 0);
        due.is("none is unsure", x.sure(), 0);
        for (int i = 0; i < 4; i++) {
            due.is("unsure again", x.unsure(33 - i), i + 1);
        }
        due.is("a 5th", x.unsure(0), Due.FULL);
    }
}
