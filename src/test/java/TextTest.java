/** Promises 39 to 41: the tape, and texts from it. */
public final class TextTest {

    private static final Due due = new Due();

    public static void main(String[] args) {
        feed();
        wipe();
        items();
        blanks();
        faults();
        earlyEnds();
        fullOnes();
        unsureTwice();
        faultChangesNothing();
        wholeTape();
        due.end();
    }

    private static void feed() {
        RingingRock x = new RingingRock();
        due.is("n 0", x.feed(0, 0), Due.BEYOND);
        due.is("n 5", x.feed(0, 5), Due.BEYOND);
        due.is("n -1", x.feed(0, -1), Due.BEYOND);
        due.is("the lowest byte", x.feed(0x7a7a7a69, 1), 1);
        due.is("two bytes, the highest of them first", x.feed(0x7a7a726f, 2), 3);
        due.is("three bytes", x.feed(0xff6e2033, 3), 6);
        due.is("four bytes", x.feed(0x3b206d75, 4), 10);
        due.is("two bytes", x.feed(0x7465, 2), 12);
        due.is("iron 3; mute", x.text(), 2);
        due.is("iron", x.cells(4), 8);
        due.is("mute", x.of(0, 0), 5);
        for (int i = 1; i <= 29; i++) {
            due.is("four more", x.feed(0x80ff00fe, 4), 4 * i);
        }
        due.is("119", x.feed(0, 3), 119);
        due.is("121", x.feed(0, 2), Due.FULL);
        due.is("beyond ahead of full", x.feed(0, 5), Due.BEYOND);
        due.is("it stays 119", x.count(5), 119);
        due.is("120", x.feed(0, 1), 120);
        due.is("121", x.feed(0, 1), Due.FULL);
    }

    private static void wipe() {
        RingingRock x = new RingingRock();
        due.is("empty", x.wipe(), 0);
        x.feed(0, 3);
        due.is("three", x.wipe(), 3);
        due.is("none", x.count(5), 0);
        due.is("a text behind it", Due.tell(x, "crew"), 1);
        Due.feedAll(x, "crew; crew; crew");
        x.wipe();
        due.is("nothing is left behind", Due.tell(x, "iron 0"), 1);
        due.is("one crew", x.count(1), 1);
        String[] longer = {"deafx", "deaf at 35", "crew;   ", "hole 14"};
        String[] shorter = {"deaf", "deaf at 3", "crew;", "hole 1"};
        int[] answers = {1, 1, -6, 1};
        for (int i = 0; i < 4; i++) {
            Due.feedAll(x, longer[i]);
            x.wipe();
            due.is("nothing is read of what was wiped", Due.tell(x, shorter[i]), answers[i]);
        }
        due.is("3 of 35", x.of(2, 1), 3);
        due.is("1 of 14", x.cells(2), 2);
    }

    private static void items() {
        RingingRock x = new RingingRock();
        due.is("all kinds", Due.tell(x, "crew; hammer at 1; drill force 2; bell at 3 force 4; soft at 35; mute force 20"), 6);
        int[] kinds = {0, 1, 2, 3, 4, 5};
        int[] places = {0, 1, 0, 3, 35, 0};
        int[] forces = {6, 6, 2, 4, 6, 20};
        for (int i = 0; i < 6; i++) {
            due.is("kind", x.of(i, 0), kinds[i]);
            due.is("cell", x.of(i, 1), places[i]);
            due.is("force", x.of(i, 2), forces[i]);
        }
        due.is("all stuffs", Due.tell(x, "iron 0 to 35; rock 1; rubble 2 to 2; hole 3 to 5; water 35; rock 3"), 6);
        due.is("rock", x.cells(0), Due.set(1, 3));
        due.is("rubble", x.cells(1), Due.set(2));
        due.is("holes", x.cells(2), Due.set(4, 5));
        due.is("water", x.cells(3), Due.set(35));
        due.is("heard", Due.tell(x, "heard 0 35 99; heard 35 0 0"), 2);
        due.is("books", x.count(3), 2);
        due.is("unsure", Due.tell(x, "unsure 35; unsure 0"), 2);
        due.is("in the order told", x.lays(0), 3 + 5 * 4);
        x = new RingingRock();
        due.is("deaf", Due.tell(x, "deaf force 1 "), 1);
        due.is("deaf", x.of(0, 0), 6);
        due.is("the tape is empty", x.count(5), 0);
        due.is("books as told", Due.tell(x, "heard 1 3 4"), 1);
        due.is("they fit", x.wrong(), Due.NONE);
        due.is("books as told", Due.tell(x, "heard 1 4 4"), 1);
        due.is("they don't", x.wrong(), 1);
        due.is("no findings", x.status(-1), 1);
    }

    private static void blanks() {
        RingingRock x = new RingingRock();
        due.is("as few as can be", Due.tell(x, "bell at7force3;iron5to6;heard1 2 3;unsure4"), 4);
        due.is("cell", x.of(0, 1), 7);
        due.is("force", x.of(0, 2), 3);
        due.is("iron", x.cells(4), Due.set(5, 6));
        due.is("many", Due.tell(x, "   crew   ;  rock   7  to  8 ;hole  9   "), 3);
        due.is("as long as can be", Due.tell(x, "crewat 7"), -1);
        due.is("as long as can be", Due.tell(x, "heard 12 3"), -11);
        due.is("zeros ahead", Due.tell(x, "crew at 0000000000000000007 force 0001"), 1);
        due.is("zeros ahead", x.of(2, 1), 7);
        due.is("zeros ahead", x.of(2, 2), 1);
        due.is("a line's end is no blank", Due.tell(x, "crew\n"), -5);
        due.is("a tab is no blank", Due.tell(x, "\tcrew"), -1);
    }

    /** A text with a fault, and its place. */
    private static void fault(String text, int place) {
        RingingRock x = new RingingRock();
        due.is(text, Due.tell(x, text), -1 - place);
        due.is(text + ": the tape is empty", x.count(5), 0);
        due.is(text + ": no finding", x.status(-1), 0);
        due.is(text + ": no crew", x.count(1), 0);
        due.is(text + ": no book", x.count(3), 0);
        due.is(text + ": none unsure", x.count(4), 0);
        due.is(text + ": all rock", x.cells(0), (1L << 36) - 1);
    }

    private static void faults() {
        fault("gong", 0);
        fault("crews", 0);
        fault("cre", 0);
        fault("Crew", 0);
        fault("brew", 0);
        fault("crewz", 0);
        fault("zcrew", 0);
        String[] words = {"crew", "hammer", "drill", "bell", "soft", "mute", "deaf", "rock 1", "rubble 1",
            "hole 1", "water 1", "iron 1", "heard 1 1 1", "unsure 1"};
        for (String word : words) {
            fault("z" + word.substring(1), 0);
            fault(word.substring(1), 0);
            fault("rock 1;" + word.replaceAll("[a-z]( |$)", "z$1"), 7);
        }
        fault("crew bt 3", 5);
        fault("crew az 3", 5);
        fault("crew zorce 3", 5);
        fault("rock 3 zo 4", 7);
        fault("rock 3 tz 4", 7);
        fault("7", 0);
        fault(";", 0);
        fault("at 7", 0);
        fault("to", 0);
        fault("force", 0);
        fault("  ;", 2);
        fault("crew;;crew", 5);
        fault("crew crew", 5);
        fault("crew 7", 5);
        fault("crew at at", 8);
        fault("crew at 36", 8);
        fault("crew at 999", 8);
        fault("crew at 1000", 8);
        fault("crew at 4294967296", 8);
        fault("crew at 18446744073709551616", 8);
        fault("crew at 3 at 3", 10);
        fault("crew at 3 force 0", 16);
        fault("crew at 3 force 21", 16);
        fault("crew force 3 at 3", 13);
        fault("crew force x", 11);
        fault("crew to 3", 5);
        fault("rock", 4);
        fault("rock 36", 5);
        fault("rock at 3", 5);
        fault("rock 3 3", 7);
        fault("rock 3 to 2", 10);
        fault("rock 3 to 36", 10);
        fault("rock 3 to crew", 10);
        fault("rock 3 force 3", 7);
        fault("hole 0 to 5; rock 36", 18);
        fault("heard 36 0 0", 6);
        fault("heard 0 36 0", 8);
        fault("heard 0 0 100", 10);
        fault("heard 0 0;0", 9);
        fault("heard 0 0 0 0", 12);
        fault("unsure 36", 7);
        fault("unsure x", 7);
        fault("unsure 1 2", 9);
        fault("unsure 1; unsure 1", 17);
        fault("crew?", 4);
        fault("crew at ?", 8);
        fault("crew at 3?", 9);
        fault("crew ; ?", 7);
        fault("crew -1", 5);
        fault("crew at -1", 8);
        fault("{", 0);
        fault("`", 0);
        fault("rock /", 5);
        fault("rock :", 5);
        fault("crew\u00e9", 4);
        fault("\u0000", 0);
        fault("crew; \u00ff", 6);
    }

    private static void earlyEnds() {
        fault("", 0);
        fault("   ", 3);
        fault("crew;", 5);
        fault("crew;  ", 7);
        fault("crew at", 7);
        fault("crew at 3 force", 15);
        fault("rock ", 5);
        fault("iron 3 to", 9);
        fault("heard", 5);
        fault("heard 1", 7);
        fault("heard 1 2 ", 10);
        fault("unsure", 6);
    }

    private static void fullOnes() {
        RingingRock x = new RingingRock();
        due.is("six crews", Due.tell(x, "crew;crew;crew;crew;crew;deaf"), 6);
        due.is("a 7th: its word", Due.tell(x, "hole 3; crew at 99"), -9);
        due.is("a 7th: its word", Due.tell(x, "bell"), -1);
        due.is("nothing changed", x.cells(2), 0);
        due.is("eight books", Due.tell(x, "heard 0 0 0;heard 0 0 0;heard 0 0 0;heard 0 0 0;heard 0 0 0;heard 0 0 0;heard 0 0 0;heard 0 0 0"), 8);
        due.is("a 9th: its word", Due.tell(x, " heard"), -2);
        due.is("four unsure cells", Due.tell(x, "unsure 0;unsure 1;unsure 2;unsure 3"), 4);
        due.is("a 5th: its word", Due.tell(x, "iron 3;unsure 3"), -8);
        due.is("stuffs still", Due.tell(x, "iron 3"), 1);
        x = new RingingRock();
        due.is("a 7th in the text", Due.tell(x, "crew;crew;crew;crew;crew;crew;crew"), -31);
        due.is("none of them", x.count(1), 0);
        due.is("a 9th in the text", Due.tell(x, "heard 0 0 0;heard 0 0 0;heard 0 0 0;heard 0 0 0;heard 0 0 0;heard 0 0 0;heard 0 0 0;heard 0 0 0;heard 0 0 0"), -97);
        due.is("none of them", x.count(3), 0);
    }

    private static void unsureTwice() {
        RingingRock x = new RingingRock();
        x.unsure(17);
        due.is("one that is unsure", Due.tell(x, "unsure 17"), -8);
        due.is("another one", Due.tell(x, "unsure 16"), 1);
        x.sure();
        due.is("one that was unsure", Due.tell(x, "unsure 17"), 1);
    }

    private static void faultChangesNothing() {
        RingingRock x = new RingingRock();
        Due.tell(x, "crew at 3; water 7; unsure 8; heard 0 0 0");
        x.hold(3, 0);
        due.is("a fault at the end", Due.tell(x, "crew; hole 3; unsure 9; heard 0 0 1; rock 99"), -1 - 42);
        due.is("crews", x.count(1), 1);
        due.is("holes", x.count(2), 0);
        due.is("books", x.count(3), 1);
        due.is("unsure", x.count(4), 1);
        due.is("water", x.cells(3), 1 << 7);
        due.is("spot", x.as(3, 0), 0);
        due.is("no finding", x.status(-1), 0);
        Due.tell(x, "crew");
        due.is("spots stay", x.as(3, 0), 0);
        due.is("crews", x.count(1), 2);
    }

    private static void wholeTape() {
        RingingRock x = new RingingRock();
        StringBuilder text = new StringBuilder();
        for (int i = 0; i < 17; i++) {
            text.append("rock 1;");
        }
        due.is("119 bytes", text.length(), 119);
        due.is("it ends too early", Due.tell(x, text.toString()), -120);
        due.is("a word at the end", Due.tell(x, text + "c"), -120);
        due.is("17 items", Due.tell(x, text.substring(0, 118) + "2"), 17);
        due.is("a number to the last byte", Due.tell(x, text.substring(0, 112) + "hole  12"), 17);
        due.is("a hole", x.cells(2), 1 << 12);
    }
}
