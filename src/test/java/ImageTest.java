/** Promises 49 to 53: images, counts, status. */
public final class ImageTest {

    private static final Due due = new Due();

    public static void main(String[] args) {
        imageKeepsAll();
        imageLeavesTapeAndSheets();
        undoAndTear();
        latestImage();
        counts();
        status();
        statusOfTexts();
        due.end();
    }

    private static void imageKeepsAll() {
        RingingRock x = new RingingRock();
        Due.tell(x, "crew at 3 force 9; bell at 4; iron 5; hole 6; unsure 7; heard 1 2 3; heard 3 5 3");
        x.hold(2, 1);
        x.seed(99);
        x.years(3);
        long iron = x.cells(4);
        int z = x.count(6);
        int holes = x.count(2);
        due.is("image", x.image(), 1);
        Due.tell(x, "water 0 to 35; crew; unsure 8; heard 0 0 0");
        x.hold(2, 2);
        x.hold(3, 0);
        x.change(0, 0, 5);
        x.change(0, 1, 30);
        x.change(0, 2, 1);
        x.years(4);
        due.is("undo tells the year", x.undo(), 3);
        due.is("year", x.count(0), 3);
        due.is("crews", x.count(1), 2);
        due.is("holes", x.count(2), holes);
        due.is("books", x.count(3), 2);
        due.is("unsure", x.count(4), 1);
        due.is("z", x.count(6), z);
        due.is("spots", x.count(7), 1);
        due.is("iron", x.cells(4), iron);
        due.is("kind", x.of(0, 0), 0);
        due.is("cell", x.of(0, 1), 3);
        due.is("force", x.of(0, 2), 9);
        due.is("spot", x.as(2, 0), 1);
        due.is("unsure is the one that was", x.unsure(7), Due.STATE);
        due.is("another one is sure", x.unsure(8), 2);
    }

    private static void imageLeavesTapeAndSheets() {
        RingingRock x = new RingingRock();
        x.feed(0, 2);
        x.sheet(0, 8, 1);
        x.image();
        x.feed(0, 3);
        x.sheet(0, 16, 2);
        x.write(0, 1, 3);
        x.sheet(1, 8, 0);
        x.undo();
        due.is("the tape stays", x.count(5), 5);
        due.is("sheets stay", x.load(0), 2);
        due.is("their numbers stay", x.cells(3), 2);
        due.is("sheets stay", x.load(1), 0);
    }

    private static void undoAndTear() {
        RingingRock x = new RingingRock();
        due.is("nothing is kept", x.undo(), Due.NONE);
        due.is("nothing to tear", x.tear(), 0);
        x.years(2);
        x.image();
        x.years(5);
        due.is("undo", x.undo(), 2);
        x.years(1);
        due.is("it stays kept", x.undo(), 2);
        due.is("and again", x.undo(), 2);
        due.is("tear", x.tear(), 1);
        due.is("nothing is kept", x.undo(), Due.NONE);
        due.is("nothing to tear", x.tear(), 0);
        due.is("tear leaves all as it is", x.count(0), 2);
    }

    private static void latestImage() {
        RingingRock x = new RingingRock();
        x.image();
        x.stuff(0, 1);
        x.image();
        x.stuff(0, 2);
        x.undo();
        due.is("the latest", x.cells(1), 1);
        x.tear();
        due.is("none earlier", x.undo(), Due.NONE);
        x.crew(0, 0);
        x.image();
        x.change(0, 2, 9);
        x.undo();
        x.change(0, 2, 11);
        x.undo();
        due.is("changes behind an undo don't reach it", x.of(0, 2), 6);
    }

    private static void counts() {
        RingingRock x = new RingingRock();
        Due.tell(x, "crew; crew; hole 3 to 6; heard 0 0 0; heard 0 0 0; heard 0 0 0; unsure 1");
        x.hold(0, 0);
        x.hold(1, 0);
        x.hold(9, 1);
        x.hold(8, 1);
        x.hold(7, 1);
        x.feed(0, 4);
        x.feed(0, 2);
        int[] dueCounts = {0, 2, 4, 3, 1, 6, 1, 5};
        for (int what = 0; what < 8; what++) {
            due.is("count " + what, x.count(what), dueCounts[what]);
        }
        x.years(1);
        due.is("year", x.count(0), 1);
        due.is("z", x.count(6), (1103515245 + 12345) * 1103515245 + 12345);
        due.is("what 8", x.count(8), Due.BEYOND);
        due.is("what -1", x.count(-1), Due.BEYOND);
    }

    private static void status() {
        RingingRock x = new RingingRock();
        x.stuff(36, 0);
        x.cells(5);
        x.reach(0);
        for (int i = 0; i < 8; i++) {
            x.crew(0, 0);
        }
        x.hold(0, 0);
        x.as(0, 1);
        x.as(0, 2);
        x.as(0, 3);
        x.undo();
        x.echo(0, 0, 0);
        x.load(0);
        x.sheet(0, 8, -1);
        int[] dueCounts = {3, 2, 3, 1, 1, 1, 1};
        for (int which = 0; which < 7; which++) {
            due.is("status " + which, x.status(which), dueCounts[which]);
        }
        due.is("all", x.status(-1), 12);
        due.is("7", x.status(7), Due.BEYOND);
        due.is("-2", x.status(-2), Due.BEYOND);
        due.is("counted from then on", x.status(0), 5);
        due.is("counted from then on", x.status(-1), 14);
        x.image();
        x.stuff(36, 0);
        x.undo();
        due.is("undo takes none back", x.status(0), 6);
    }

    private static void statusOfTexts() {
        RingingRock x = new RingingRock();
        Due.tell(x, "gong");
        Due.tell(x, "");
        x.ahead(0, 2);
        due.is("no findings", x.status(-1), 0);
        Due.tell(x, "hole 35");
        due.is("-1 is none", x.ahead(0, 2), -1);
        due.is("no findings", x.status(-1), 0);
    }
}
