import java.util.function.Consumer;
import java.util.function.Supplier;

/** The boundaries of promises 49 to 53: images, counts, status. */
public final class ImageEdgesTest {

    private static final Edges edges = new Edges();
    private static final Due due = edges.due;
    private static final Supplier<RingingRock> EMPTY = Edges::empty;
    private static final Supplier<RingingRock> USUAL = Edges::usual;
    private static final Supplier<RingingRock> FULL = Edges::full;

    public static void main(String[] args) {
        imageOfAll();
        imageLeavesTheTape();
        imageLeavesSheets();
        imageAnswersAndChangesNothing();
        undoOfNothing();
        undoTellsTheYear();
        undoStays();
        undoOfTheLatest();
        undoAcrossFullAndEmpty();
        tearEmptyAndFull();
        countEnds();
        countsEmptyAndFull();
        statusEnds();
        statusOfEachFinding();
        statusOfFindingsOfLongs();
        statusIsNotUndone();
        statusOfAllCalls();
        due.end();
    }

    private static final Consumer<RingingRock> NO_CHANGE = x -> x.count(0);

    /** What was changed behind an image is as it was by undo(). */
    private static void undone(String what, Supplier<RingingRock> floor, Consumer<RingingRock> change) {
        undoneBut(what, floor, change, NO_CHANGE);
    }

    /** The same, but for what the image doesn't keep. */
    private static void undoneBut(String what, Supplier<RingingRock> floor, Consumer<RingingRock> change, Consumer<RingingRock> rest) {
        RingingRock x = floor.get();
        x.image();
        change.accept(x);
        x.undo();
        RingingRock twin = floor.get();
        twin.image();
        rest.accept(twin);
        edges.alike(what + ", undone", x, twin);
    }

    // ---- promise 49

    private static void imageOfAll() {
        undone("nothing", USUAL, NO_CHANGE);
        undone("stuff", USUAL, x -> x.stuff(35, 3));
        undone("crew", USUAL, x -> x.crew(1, 1));
        undone("kind", USUAL, x -> x.change(0, 0, 5));
        undone("cell", USUAL, x -> x.change(3, 1, 35));
        undone("force", USUAL, x -> x.change(3, 2, 1));
        undone("unsure", USUAL, x -> x.unsure(0));
        undone("sure", USUAL, RingingRock::sure);
        undone("sure and unsure", USUAL, x -> {
            x.sure();
            x.unsure(8);
            x.unsure(33);
        });
        undone("book", USUAL, x -> x.book(0, 0, 1));
        undone("burn", USUAL, RingingRock::burn);
        undone("other books", USUAL, x -> {
            x.burn();
            x.book(5, 5, 5);
            x.book(6, 6, 6);
        });
        undone("lays", USUAL, x -> x.lays(7));
        undone("years", USUAL, x -> x.years(60));
        undone("seed", USUAL, x -> x.seed(3));
        undone("a spot", USUAL, x -> x.hold(9, -1));
        undone("a spot", USUAL, x -> x.hold(0, 0));
        undone("spots", USUAL, x -> {
            for (int spot = 0; spot <= 9; spot++) {
                x.hold(spot, 2);
            }
        });
        undone("load", USUAL, x -> x.load(1));
        undone("all of a full floor", FULL, x -> {
            x.burn();
            x.sure();
            x.years(9);
            for (int crew = 0; crew < 6; crew++) {
                x.change(crew, 0, 6 - crew);
                x.change(crew, 1, 10 + crew);
                x.change(crew, 2, 10 + crew);
            }
        });
    }

    private static void imageLeavesTheTape() {
        undoneBut("feed", USUAL, x -> x.feed(';', 1), x -> x.feed(';', 1));
        undoneBut("wipe", USUAL, RingingRock::wipe, RingingRock::wipe);
        undoneBut("text", USUAL, RingingRock::text, RingingRock::wipe);
        undoneBut("a fault", FULL, RingingRock::text, RingingRock::wipe);
        RingingRock x = Edges.full();
        x.image();
        x.wipe();
        x.undo();
        due.is("a tape wiped behind the image stays empty", x.count(5), 0);
    }

    private static void imageLeavesSheets() {
        undoneBut("write", USUAL, x -> x.write(1, 39, 4), x -> x.write(1, 39, 4));
        undoneBut("sheet", USUAL, x -> x.sheet(1, 8, 2), x -> x.sheet(1, 8, 2));
        undoneBut("missing", USUAL, x -> x.sheet(0, 0, 0), x -> x.sheet(0, 0, 0));
        undoneBut("there", USUAL, x -> x.sheet(3, 32, 40), x -> x.sheet(3, 32, 40));
        undoneBut("copy", USUAL, x -> x.copy(1, 0, 1, 1, 39), x -> x.copy(1, 0, 1, 1, 39));
    }

    private static void imageAnswersAndChangesNothing() {
        edges.answers(EMPTY, 1, "image");
        edges.answers(USUAL, 1, "image");
        edges.answers(FULL, 1, "image");
        RingingRock x = Edges.full();
        x.image();
        RingingRock twin = Edges.full();
        for (int what = 0; what <= 7; what++) {
            due.is("count " + what, x.count(what), twin.count(what));
        }
    }

    // ---- promise 50

    private static void undoOfNothing() {
        edges.refused(EMPTY, Due.NONE, "undo");
        Supplier<RingingRock> torn = () -> {
            RingingRock x = Edges.full();
            x.tear();
            return x;
        };
        edges.refused(torn, Due.NONE, "undo");
    }

    private static void undoTellsTheYear() {
        for (int year : new int[] {3, 4, 998, 999}) {
            Supplier<RingingRock> kept = () -> {
                RingingRock x = Edges.inYear(year);
                x.image();
                x.years(year < 998 ? 60 : 1);
                return x;
            };
            edges.answers(kept, year, "undo");
        }
        Supplier<RingingRock> newOne = () -> {
            RingingRock x = new RingingRock();
            x.image();
            return x;
        };
        edges.answers(newOne, 0, "undo");
    }

    private static void undoStays() {
        RingingRock x = Edges.usual();
        for (int i = 0; i < 3; i++) {
            due.is("undo", x.undo(), 3);
            x.years(1 + i);
            x.crew(0, 0);
            x.stuff(i, 2);
            x.hold(i, 0);
            x.change(0, 2, 20);
            x.book(0, 0, 0);
            x.unsure(20 + i);
        }
        RingingRock twin = Edges.usual();
        x.undo();
        twin.undo();
        edges.alike("undone for the fourth time, or once", x, twin);
    }

    private static void undoOfTheLatest() {
        RingingRock x = new RingingRock();
        for (int year = 0; year <= 4; year++) {
            due.is("image", x.image(), 1);
            due.is("undo", x.undo(), year);
            x.years(1);
        }
        due.is("the latest", x.undo(), 4);
        x.tear();
        due.is("no earlier one", x.undo(), Due.NONE);
    }

    private static void undoAcrossFullAndEmpty() {
        RingingRock x = new RingingRock();
        x.image();
        Edges.tell(x, "crew;crew;crew;crew;crew;crew;unsure 0;unsure 1;unsure 2;unsure 35;hole 0 to 35");
        for (int i = 0; i < 8; i++) {
            x.book(35, 35, 98);
        }
        for (int spot = 0; spot <= 9; spot++) {
            x.hold(spot, 5);
        }
        x.seed(0);
        due.is("undo", x.undo(), 0);
        RingingRock twin = new RingingRock();
        twin.image();
        edges.alike("full, undone to empty", x, twin);
        x = Edges.full();
        x.image();
        x.sure();
        x.burn();
        x.undo();
        due.is("full again", x.crew(0, 0), Due.FULL);
        due.is("full again", x.unsure(20), Due.FULL);
        due.is("full again", x.book(0, 0, 0), Due.FULL);
    }

    // ---- promise 51

    private static void tearEmptyAndFull() {
        edges.answers(EMPTY, 0, "tear");
        edges.answers(USUAL, 1, "tear");
        RingingRock x = Edges.usual();
        due.is("tear", x.tear(), 1);
        due.is("nothing is kept", x.tear(), 0);
        due.is("image", x.image(), 1);
        due.is("tear", x.tear(), 1);
        due.is("nothing is kept", x.tear(), 0);
        edges.onlyTells(EMPTY, "tear");
    }

    // ---- promise 52

    private static void countEnds() {
        edges.ends(USUAL, 0, 0, 7, "count", 3);
        edges.onlyTells(USUAL, "count", 6);
    }

    private static void countsEmptyAndFull() {
        int[] fewest = {0, 0, 0, 0, 0, 0, 1, 0};
        int[] usual = {3, 4, 0, 2, 2, 13, -7654321, 3};
        int[] most = {3, 6, 0, 8, 4, 120, -7654321, 3};
        for (int what = 0; what <= 7; what++) {
            edges.answers(EMPTY, fewest[what], "count", what);
            edges.answers(USUAL, usual[what], "count", what);
            edges.answers(FULL, most[what], "count", what);
        }
        edges.answers(() -> Edges.inYear(999), 999, "count", 0);
        edges.answers(() -> Edges.told("hole 0 to 35"), 36, "count", 2);
        edges.answers(() -> Edges.told("hole 35"), 1, "count", 2);
        Supplier<RingingRock> allSpots = () -> {
            RingingRock x = Edges.told("crew");
            for (int spot = 0; spot <= 9; spot++) {
                x.hold(spot, 0);
            }
            return x;
        };
        edges.answers(allSpots, 10, "count", 7);
    }

    // ---- promise 53

    private static void statusEnds() {
        edges.ends(USUAL, 0, -1, 6, "status", 3);
        edges.ends(EMPTY, 0, -1, 6, "status", 3);
        RingingRock x = new RingingRock();
        due.is("another one", x.status(7), Due.BEYOND);
        due.is("counted from then on", x.status(0), 1);
        due.is("another one", x.status(-2), Due.BEYOND);
        due.is("counted from then on", x.status(-1), 2);
    }

    private static void statusOfEachFinding() {
        RingingRock x = Edges.told("crew; hole 35");
        x.hold(0, 0);
        int[] each = {Due.BEYOND, Due.FULL, Due.KIND, Due.NONE, Due.STATE, Due.MISSING, Due.SIZE};
        for (int k = 0; k < 5; k++) {
            x.crew(0, 0);
        }
        for (int which = 0; which <= 6; which++) {
            due.is("none yet", x.status(which), 0);
            for (int k = 0; k <= which; k++) {
                due.is("finding " + which, answeredBy(x, which), each[which]);
            }
            due.is("status " + which, x.status(which), which + 1);
            due.is("all", x.status(-1), (which + 1) * (which + 2) / 2);
        }
    }

    private static int answeredBy(RingingRock x, int finding) {
        switch (finding) {
            case 0: return x.many(36);
            case 1: return x.crew(0, 0);
            case 2: return x.as(0, 1);
            case 3: return x.time(0, 35);
            case 4: return x.lays(0);
            case 5: return x.load(0);
            default: return x.sheet(0, 8, -1);
        }
    }

    private static void statusOfFindingsOfLongs() {
        edges.refused(EMPTY, Due.BEYOND, "cells", 5);
        edges.refused(EMPTY, Due.BEYOND, "reach", 0);
        edges.refused(EMPTY, Due.BEYOND, "from", 0, 1, 0);
        edges.refused(EMPTY, Due.BEYOND, "ways", 36);
        RingingRock x = new RingingRock();
        due.is("as a long", x.cells(-1), -1000001L);
        due.is("as a long", x.reach(0), -1000001L);
        due.is("as a long", x.from(0, 1, 0), -1000001L);
        due.is("as a long", x.ways(-1), -1000001L);
        due.is("counted", x.status(0), 4);
    }

    private static void statusIsNotUndone() {
        RingingRock x = new RingingRock();
        x.many(36);
        x.image();
        x.undo();
        due.is("that of the image", x.status(-1), 1);
        x.many(36);
        x.lays(0);
        x.undo();
        due.is("and those behind it", x.status(-1), 3);
        due.is("of each kind", x.status(0), 2);
        due.is("of each kind", x.status(4), 1);
        x.tear();
        x.undo();
        due.is("and that of undo()", x.status(3), 1);
        due.is("all", x.status(-1), 4);
    }

    /** An object is used for 512 calls: all but the last one may answer a finding. */
    private static void statusOfAllCalls() {
        for (int which : new int[] {-1, 3}) {
            RingingRock x = new RingingRock();
            for (int i = 0; i < 511; i++) {
                due.is("nothing is kept", x.undo(), Due.NONE);
            }
            due.is("status " + which, x.status(which), 511);
        }
    }
}
