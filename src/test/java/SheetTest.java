/** Promises 42 to 48: spots, sheets. */
public final class SheetTest {

    private static final Due due = new Due();

    public static void main(String[] args) {
        hold();
        as();
        sheet();
        write();
        copy();
        copyOntoItself();
        copyEdges();
        load();
        judge();
        due.end();
    }

    private static void hold() {
        RingingRock x = new RingingRock();
        due.is("no crew", x.hold(0, 0), Due.BEYOND);
        due.is("nothing", x.hold(0, -1), 1);
        x.crew(0, 0);
        x.crew(1, 0);
        due.is("spot 0", x.hold(0, 1), 1);
        due.is("spot 9", x.hold(9, 0), 1);
        due.is("two hold something", x.count(7), 2);
        due.is("spot 10", x.hold(10, 0), Due.BEYOND);
        due.is("spot -1", x.hold(-1, 0), Due.BEYOND);
        due.is("crew 2", x.hold(0, 2), Due.BEYOND);
        due.is("crew -2", x.hold(0, -2), Due.BEYOND);
        due.is("it stays", x.as(0, 0), 1);
        due.is("nothing", x.hold(0, -1), 1);
        due.is("nothing", x.as(0, 0), Due.MISSING);
        due.is("one holds something", x.count(7), 1);
        due.is("another one", x.hold(9, 1), 1);
        due.is("another one", x.as(9, 0), 1);
    }

    private static void as() {
        // For each kind: it and those above it.
        String[] lines = {"0", "10", "210", "3210", "40", "540", "60"};
        RingingRock x = new RingingRock();
        x.crew(0, 0);
        x.crew(0, 0);
        x.hold(4, 1);
        for (int kind = 0; kind < 7; kind++) {
            x.change(1, 0, kind);
            for (int asked = 0; asked < 7; asked++) {
                boolean is = lines[kind].indexOf('0' + asked) >= 0;
                due.is(kind + " as " + asked, x.as(4, asked), is ? 1 : Due.KIND);
            }
        }
        due.is("spot -1", x.as(-1, 0), Due.BEYOND);
        due.is("spot 10", x.as(10, 0), Due.BEYOND);
        due.is("kind -1", x.as(4, -1), Due.BEYOND);
        due.is("kind 7", x.as(4, 7), Due.BEYOND);
        due.is("beyond ahead of missing", x.as(5, 7), Due.BEYOND);
        due.is("missing", x.as(5, 6), Due.MISSING);
    }

    private static void sheet() {
        RingingRock x = new RingingRock();
        due.is("8 bits", x.sheet(0, 8, 40), 40);
        due.is("16 bits", x.sheet(1, 16, 3), 3);
        due.is("32 bits", x.sheet(3, 32, 0), 0);
        due.is("no numbers, yet not missing", x.write(3, 0, 0), Due.BEYOND);
        due.is("missing from the first", x.write(2, 0, 0), Due.MISSING);
        due.is("bits 0", x.sheet(1, 0, 3), 0);
        due.is("it is missing", x.write(1, 0, 0), Due.MISSING);
        due.is("sheet -1", x.sheet(-1, 8, 0), Due.BEYOND);
        due.is("sheet 4", x.sheet(4, 8, 0), Due.BEYOND);
        int[] others = {-8, 1, 7, 9, 24, 31, 33, 64};
        for (int bits : others) {
            due.is("other bits", x.sheet(0, bits, 0), Due.BEYOND);
            due.is("beyond ahead of size", x.sheet(0, bits, -1), Due.BEYOND);
        }
        due.is("beyond ahead of size", x.sheet(4, 8, -1), Due.BEYOND);
        due.is("n -1", x.sheet(0, 8, -1), Due.SIZE);
        due.is("n -1 with bits 0", x.sheet(0, 0, Integer.MIN_VALUE), Due.SIZE);
        due.is("n 41", x.sheet(0, 8, 41), Due.BEYOND);
        due.is("n 41 with bits 0", x.sheet(0, 0, 41), Due.BEYOND);
        due.is("findings leave it as it was", x.write(0, 39, 1), 1);
        due.is("size is counted", x.status(6), 2);
        x.write(0, 0, 4);
        due.is("anew", x.sheet(0, 8, 2), 2);
        due.is("all are 0", x.load(0), 2);
        due.is("rock", x.cells(4), 0);
        due.is("longer anew", x.sheet(0, 8, 40), 40);
        due.is("the last is 0, too", x.load(0), 36);
        x.sheet(1, 8, 3);
        x.write(1, 2, 9);
        x.sheet(1, 8, 3);
        due.is("all of another sheet are 0", x.load(1), 3);
    }

    private static void write() {
        RingingRock x = new RingingRock();
        x.crew(5, 35);
        x.sheet(0, 8, 2);
        x.sheet(1, 16, 2);
        x.sheet(2, 32, 2);
        due.is("sheet -1", x.write(-1, 0, 0), Due.BEYOND);
        due.is("sheet 4", x.write(4, 0, 0), Due.BEYOND);
        due.is("missing", x.write(3, 0, 0), Due.MISSING);
        due.is("missing ahead of no such number", x.write(3, -1, 0), Due.MISSING);
        due.is("number -1", x.write(0, -1, 0), Due.BEYOND);
        due.is("number 2", x.write(0, 2, 0), Due.BEYOND);
        due.is("number 40", x.write(0, 40, 0), Due.BEYOND);
        // A mute one is heard by -1 in all cells but its own: so a number can be told from -1.
        int[] lows = {0xff, 0xffff, -1};
        int[] less = {0x7f, 0xff, 0xffff};
        for (int s = 0; s < 3; s++) {
            due.is("write", x.write(s, 0, lows[s]), 1);
            due.is("write", x.write(s, 1, less[s]), 1);
            due.is("the first is -1, the second isn't", x.judge(s, 0), 2);
            x.write(s, 1, lows[s]);
            due.is("both are", x.judge(s, 0), 0);
        }
        x.write(0, 0, 0x7fffff03);
        x.write(0, 1, 0x12345604);
        due.is("the lowest bits", x.load(0), 2);
        due.is("of 8 bits", x.cells(3), 1);
        due.is("of 8 bits", x.cells(4), 2);
        x.write(1, 0, 0x10002);
        x.write(1, 1, 0x103);
        due.is("of 16 bits", x.load(1), 1);
        due.is("of 16 bits", x.cells(2), 1);
        x.write(2, 0, 0x10002);
        due.is("of 32 bits", x.load(2), 0);
    }

    /** A sheet of stuffs, told by digits. */
    private static void fill(RingingRock x, int s, int bits, String digits) {
        x.sheet(s, bits, digits.length());
        for (int i = 0; i < digits.length(); i++) {
            x.write(s, i, digits.charAt(i) - '0');
        }
    }

    /** What a sheet of stuffs holds; an end is told by the first that is none. */
    private static String read(RingingRock x, int s) {
        int n = x.load(s);
        StringBuilder digits = new StringBuilder();
        for (int c = 0; c < n; c++) {
            digits.append(x.stuff(c, 0));
        }
        return digits.toString();
    }

    private static void copy() {
        RingingRock x = new RingingRock();
        fill(x, 0, 8, "1234");
        fill(x, 1, 8, "00000");
        fill(x, 2, 16, "11");
        due.is("copy", x.copy(0, 1, 1, 2, 3), 3);
        due.holds("as copied", read(x, 1).equals("00234"));
        due.holds("it stays", read(x, 0).equals("1234"));
        due.is("back", x.copy(1, 2, 0, 0, 2), 2);
        due.holds("as copied", read(x, 0).equals("2334"));
        due.is("sheet -1", x.copy(-1, 0, 0, 0, 0), Due.BEYOND);
        due.is("sheet 4", x.copy(4, 0, 0, 0, 0), Due.BEYOND);
        due.is("other sheet -1", x.copy(0, 0, -1, 0, 0), Due.BEYOND);
        due.is("other sheet 4", x.copy(0, 0, 4, 0, 0), Due.BEYOND);
        due.is("beyond ahead of missing", x.copy(3, 0, 4, 0, 0), Due.BEYOND);
        due.is("the one is missing", x.copy(3, 0, 0, 0, 0), Due.MISSING);
        due.is("the other is missing", x.copy(0, 0, 3, 0, 0), Due.MISSING);
        due.is("both are missing", x.copy(3, 0, 3, -1, -1), Due.MISSING);
        due.is("other bits", x.copy(0, 0, 2, 0, 1), Due.KIND);
        due.is("kind ahead of beyond", x.copy(0, -1, 2, 0, 99), Due.KIND);
    }

    private static void copyOntoItself() {
        RingingRock x = new RingingRock();
        fill(x, 0, 32, "1234000");
        due.is("upward", x.copy(0, 0, 0, 1, 4), 4);
        due.holds("as they all were", read(x, 0).equals("1123400"));
        due.is("downward", x.copy(0, 2, 0, 1, 5), 5);
        due.holds("as they all were", read(x, 0).equals("1234000"));
        due.is("where they are", x.copy(0, 0, 0, 0, 7), 7);
        due.holds("as they all were", read(x, 0).equals("1234000"));
    }

    private static void copyEdges() {
        RingingRock x = new RingingRock();
        fill(x, 0, 8, "1234");
        fill(x, 1, 8, "00");
        due.is("the other has not so many", x.copy(0, 0, 1, 0, 3), Due.BEYOND);
        due.is("the other has not so many from there", x.copy(0, 0, 1, 1, 2), Due.BEYOND);
        due.is("the one has not so many", x.copy(1, 0, 0, 0, 3), Due.BEYOND);
        due.is("the one has not so many from there", x.copy(0, 3, 1, 0, 2), Due.BEYOND);
        due.is("from -1", x.copy(0, -1, 1, 0, 1), Due.BEYOND);
        due.is("to -1", x.copy(0, 0, 1, -1, 1), Due.BEYOND);
        due.is("n -1", x.copy(0, 0, 1, 0, -1), Due.BEYOND);
        due.is("n below 0, far", x.copy(0, 2, 1, 2, Integer.MIN_VALUE), Due.BEYOND);
        due.is("a sum beyond an int", x.copy(0, 1, 1, 1, Integer.MAX_VALUE), Due.BEYOND);
        due.is("a sum beyond an int", x.copy(0, Integer.MAX_VALUE, 1, 0, 1), Due.BEYOND);
        due.is("a sum beyond an int", x.copy(0, 0, 1, Integer.MAX_VALUE, 1), Due.BEYOND);
        due.holds("nothing changes", read(x, 1).equals("00"));
        due.is("none", x.copy(0, 0, 1, 0, 0), 0);
        due.is("none, at the ends", x.copy(0, 4, 1, 2, 0), 0);
        due.is("to the end", x.copy(0, 2, 1, 0, 2), 2);
        due.holds("as copied", read(x, 1).equals("34"));
    }

    private static void load() {
        RingingRock x = new RingingRock();
        due.is("sheet -1", x.load(-1), Due.BEYOND);
        due.is("sheet 4", x.load(4), Due.BEYOND);
        due.is("missing", x.load(0), Due.MISSING);
        fill(x, 0, 8, "");
        due.is("no numbers", x.load(0), 0);
        fill(x, 0, 8, "12345");
        x.stuff(4, 3);
        due.is("it ends at a 5", x.load(0), 4);
        due.is("rubble", x.cells(1), 1);
        due.is("hole", x.cells(2), 2);
        due.is("water", x.cells(3), 4 | 16);
        due.is("iron", x.cells(4), 8);
        x.sheet(2, 8, 40);
        x.write(2, 4, 9);
        x.sheet(2, 8, 4);
        due.is("no more than it has", x.load(2), 4);
        x.sheet(2, 8, 40);
        x.sheet(2, 8, 4);
        x.stuff(4, 3);
        due.is("no more than it has", x.load(2), 4);
        due.is("the cell behind it stays", x.cells(3), 16);
        x.load(0);
        x.write(0, 1, -1);
        due.is("it ends at a -1", x.load(0), 1);
        due.is("the rest stays", x.cells(2), 2);
        x.sheet(1, 32, 40);
        for (int i = 0; i < 40; i++) {
            x.write(1, i, 4);
        }
        due.is("there are 36 cells", x.load(1), 36);
        due.is("all of iron", x.cells(4), (1L << 36) - 1);
    }

    private static void judge() {
        RingingRock x = new RingingRock();
        due.is("sheet -1", x.judge(-1, 0), Due.BEYOND);
        due.is("sheet 4", x.judge(4, 0), Due.BEYOND);
        due.is("missing ahead of no crew", x.judge(0, 0), Due.MISSING);
        x.sheet(0, 8, 40);
        due.is("no crew", x.judge(0, 0), Due.BEYOND);
        due.is("crew -1", x.judge(0, -1), Due.BEYOND);
        Due.tell(x, "drill at 7 force 2; rubble 35; hole 22");
        for (int c = 0; c < 36; c++) {
            int heard = x.heard(0, c);
            due.is("the first that isn't", x.judge(0, 0), 1 + c);
            x.write(0, c, heard == Due.NONE ? -1 : heard);
        }
        due.is("all are; for the last four there are no cells", x.judge(0, 0), 0);
        x.write(0, 35, 17);
        due.is("the last cell", x.judge(0, 0), 36);
        x.write(0, 3, 1);
        due.is("an earlier one", x.judge(0, 0), 4);
        x.sheet(0, 8, 1);
        x.write(0, 0, x.heard(0, 0));
        due.is("the numbers of the sheet alone", x.judge(0, 0), 0);
        x.sheet(0, 8, 0);
        due.is("no numbers", x.judge(0, 0), 0);
        due.is("crew 1", x.judge(0, 1), Due.BEYOND);
        judgeFar();
    }

    private static void judgeFar() {
        RingingRock x = new RingingRock();
        Due.tell(x, "rubble 0 to 35; hole 6 to 10; hole 19 to 23; hole 30 to 34; bell force 20");
        for (int bits = 8; bits <= 32; bits *= 2) {
            x.sheet(0, bits, 36);
            for (int c = 0; c < 36; c++) {
                int heard = x.heard(0, c);
                x.write(0, c, heard == Due.NONE ? -1 : heard);
            }
            due.is("heard by 122", x.judge(0, 0), 0);
        }
    }
}
