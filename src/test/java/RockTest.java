/** Promises 1 to 8: a new object; rock, crews, unsure cells. */
public final class RockTest {

    private static final Due due = new Due();
    private static final long ALL = (1L << 36) - 1;

    public static void main(String[] args) {
        newObject();
        stuffs();
        crews();
        carriesStartsHears();
        changes();
        sets();
        unsureCells();
        due.end();
    }

    private static void newObject() {
        RingingRock x = new RingingRock();
        int[] counts = {0, 0, 0, 0, 0, 0, 1, 0};
        for (int what = 0; what < counts.length; what++) {
            due.is("new: count " + what, x.count(what), counts[what]);
        }
        for (int which = -1; which < 7; which++) {
            due.is("new: status " + which, x.status(which), 0);
        }
        due.is("new: rock", x.cells(0), ALL);
        due.is("new: no image", x.tear(), 0);
        due.is("new: undo", x.undo(), Due.NONE);
        for (int spot = 0; spot < 10; spot++) {
            due.is("new: spot", x.as(spot, 0), Due.MISSING);
        }
        for (int s = 0; s < 4; s++) {
            due.is("new: sheet", x.write(s, 0, 0), Due.MISSING);
        }
        due.is("new: tape", x.wipe(), 0);
        due.is("new: books", x.burn(), 0);
        due.is("new: unsure", x.sure(), 0);
    }

    private static void stuffs() {
        RingingRock x = new RingingRock();
        due.is("stuff at first", x.stuff(0, 4), 0);
        due.is("stuff was", x.stuff(0, 3), 4);
        due.is("stuff was", x.stuff(0, 3), 3);
        due.is("stuff of the last cell", x.stuff(35, 2), 0);
        due.is("stuff of the last cell", x.stuff(35, 1), 2);
        due.is("cell -1", x.stuff(-1, 0), Due.BEYOND);
        due.is("cell 36", x.stuff(36, 0), Due.BEYOND);
        due.is("stuff -1", x.stuff(0, -1), Due.BEYOND);
        due.is("stuff 5", x.stuff(0, 5), Due.BEYOND);
        due.is("far", x.stuff(Integer.MIN_VALUE, Integer.MAX_VALUE), Due.BEYOND);
        due.is("a finding changes nothing", x.cells(3), 1);
        due.is("status tells it", x.status(0), 5);
    }

    private static void crews() {
        RingingRock x = new RingingRock();
        due.is("kind -1", x.crew(-1, 0), Due.BEYOND);
        due.is("kind 7", x.crew(7, 0), Due.BEYOND);
        due.is("cell -1", x.crew(0, -1), Due.BEYOND);
        due.is("cell 36", x.crew(0, 36), Due.BEYOND);
        due.is("no crew yet", x.of(0, 0), Due.BEYOND);
        for (int i = 0; i < 6; i++) {
            due.is("crew", x.crew(i + 1, 35 - i), i);
            due.is("kind", x.of(i, 0), i + 1);
            due.is("cell", x.of(i, 1), 35 - i);
            due.is("force", x.of(i, 2), 6);
        }
        due.is("a 7th crew", x.crew(0, 0), Due.FULL);
        due.is("beyond ahead of full", x.crew(7, 0), Due.BEYOND);
        due.is("crews", x.count(1), 6);
        due.is("crew -1", x.of(-1, 0), Due.BEYOND);
        due.is("crew 6", x.of(6, 0), Due.BEYOND);
        due.is("what -1", x.of(0, -1), Due.BEYOND);
        due.is("what 6", x.of(0, 6), Due.BEYOND);
    }

    private static void carriesStartsHears() {
        int[] carriesOf6 = {24, 48, 53, 59, 12, 0, 24};
        int[] carriesOf7 = {28, 56, 61, 68, 14, 0, 28};
        int[] carriesOf20 = {80, 160, 165, 185, 40, 0, 80};
        int[] starts = {0, 0, 1, 2, 2, 2, 0};
        int[] hearsBy = {60, 60, 60, 40, 30, 30, -1};
        RingingRock x = new RingingRock();
        x.crew(0, 0);
        for (int kind = 0; kind < 7; kind++) {
            x.change(0, 0, kind);
            x.change(0, 2, 6);
            due.is("carries of kind " + kind, x.of(0, 3), carriesOf6[kind]);
            due.is("starts of kind " + kind, x.of(0, 4), starts[kind]);
            due.is("hears by of kind " + kind, x.of(0, 5), hearsBy[kind]);
            x.change(0, 2, 7);
            due.is("carries of kind " + kind, x.of(0, 3), carriesOf7[kind]);
            x.change(0, 2, 20);
            due.is("carries of kind " + kind, x.of(0, 3), carriesOf20[kind]);
        }
        due.is("no findings among them", x.status(-1), 0);
    }

    private static void changes() {
        RingingRock x = new RingingRock();
        due.is("no crew", x.change(0, 0, 0), Due.BEYOND);
        x.crew(1, 9);
        x.crew(2, 10);
        due.is("kind was", x.change(0, 0, 6), 1);
        due.is("kind is", x.of(0, 0), 6);
        due.is("cell was", x.change(0, 1, 35), 9);
        due.is("cell is", x.of(0, 1), 35);
        due.is("force was", x.change(0, 2, 20), 6);
        due.is("force is", x.of(0, 2), 20);
        due.is("least force", x.change(0, 2, 1), 20);
        due.is("kind 7", x.change(0, 0, 7), Due.BEYOND);
        due.is("kind -1", x.change(0, 0, -1), Due.BEYOND);
        due.is("cell 36", x.change(0, 1, 36), Due.BEYOND);
        due.is("cell -1", x.change(0, 1, -1), Due.BEYOND);
        due.is("force 0", x.change(0, 2, 0), Due.BEYOND);
        due.is("force 21", x.change(0, 2, 21), Due.BEYOND);
        due.is("what 3", x.change(0, 3, 1), Due.BEYOND);
        due.is("what -1", x.change(0, -1, 1), Due.BEYOND);
        due.is("crew 2", x.change(2, 0, 1), Due.BEYOND);
        due.is("crew -1", x.change(-1, 0, 1), Due.BEYOND);
        int[] other = {2, 10, 6};
        int[] first = {6, 35, 1};
        for (int what = 0; what < 3; what++) {
            due.is("the other one stays", x.of(1, what), other[what]);
            due.is("as it was changed", x.of(0, what), first[what]);
        }
    }

    private static void sets() {
        RingingRock x = new RingingRock();
        x.stuff(0, 1);
        x.stuff(35, 2);
        x.stuff(7, 3);
        x.stuff(31, 4);
        x.stuff(32, 4);
        due.is("rubble", x.cells(1), 1);
        due.is("holes", x.cells(2), 1L << 35);
        due.is("water", x.cells(3), 1L << 7);
        due.is("iron", x.cells(4), 1L << 31 | 1L << 32);
        due.is("rock", x.cells(0), ALL & ~Due.set(0, 35, 7, 31, 32));
        due.is("stuff -1", x.cells(-1), Due.BEYOND);
        due.is("stuff 5", x.cells(5), Due.BEYOND);
    }

    private static void unsureCells() {
        RingingRock x = new RingingRock();
        due.is("cell -1", x.unsure(-1), Due.BEYOND);
        due.is("cell 36", x.unsure(36), Due.BEYOND);
        due.is("one", x.unsure(35), 1);
        due.is("again", x.unsure(35), Due.STATE);
        due.is("two", x.unsure(0), 2);
        due.is("three", x.unsure(20), 3);
        due.is("four", x.unsure(10), 4);
        due.is("a 5th", x.unsure(11), Due.FULL);
        due.is("state ahead of full", x.unsure(20), Due.STATE);
        due.is("beyond ahead of full", x.unsure(36), Due.BEYOND);
        due.is("unsure cells", x.count(4), 4);
        due.is("sure", x.sure(), 4);
        due.is("sure again", x.sure(), 0);
        due.is("none is unsure", x.count(4), 0);
        due.is("one that was", x.unsure(20), 1);
    }
}
