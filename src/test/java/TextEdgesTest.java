import java.util.function.Consumer;
import java.util.function.Supplier;

/** The boundaries of 'Terms' 3 on texts, and of promises 39 to 41. */
public final class TextEdgesTest {

    private static final Edges edges = new Edges();
    private static final Due due = edges.due;
    private static final Supplier<RingingRock> EMPTY = Edges::empty;
    private static final Supplier<RingingRock> USUAL = Edges::usual;
    private static final Supplier<RingingRock> FULL = Edges::full;

    public static void main(String[] args) {
        feedEnds();
        feedTo120();
        feedWhichBytes();
        wipeEmptyAndFull();
        emptyAndBlankTexts();
        eachByteAlone();
        eachByteBehindAWord();
        numbersOfCrews();
        numbersOfStuffs();
        numbersOfHeard();
        numbersOfUnsure();
        greatNumbers();
        seventhCrew();
        ninthInBooks();
        fifthUnsure();
        unsureAlready();
        textsOf120Bytes();
        itemByItem();
        textTwice();
        cutAndChangedTexts();
        due.end();
    }

    /** On a floor a text has a fault at a place; but for the tape, which is empty, nothing changes. */
    private static void fault(Supplier<RingingRock> floor, String text, int place) {
        RingingRock x = withTape(floor, text);
        int findings = x.status(-1);
        due.is("'" + text + "'", x.text(), -1 - place);
        due.is("'" + text + "': findings", x.status(-1), findings);
        edges.alike("'" + text + "'", x, withTape(floor, ""));
    }

    /** On a floor a text of so many items is told; then all is as by some calls. */
    private static void items(Supplier<RingingRock> floor, String text, int items, Consumer<RingingRock> calls) {
        RingingRock x = withTape(floor, text);
        int findings = x.status(-1);
        due.is("'" + text + "'", x.text(), items);
        due.is("'" + text + "': findings", x.status(-1), findings);
        RingingRock twin = withTape(floor, "");
        calls.accept(twin);
        edges.alike("'" + text + "'", x, twin);
    }

    private static RingingRock withTape(Supplier<RingingRock> floor, String text) {
        RingingRock x = floor.get();
        x.wipe();
        Edges.feed(x, text);
        return x;
    }

    private static String times(int n, String item) {
        return item.repeat(n);
    }

    // ---- promise 39

    private static void feedEnds() {
        for (int bytes : new int[] {0, -1, Integer.MIN_VALUE, Integer.MAX_VALUE, 0x3b3b3b3b}) {
            edges.ends(USUAL, 1, 1, 4, "feed", bytes, 2);
        }
    }

    private static void feedTo120() {
        for (int n = 1; n <= 4; n++) {
            for (int had = 114; had <= 120; had++) {
                String tape = times(had, "x");
                Supplier<RingingRock> floor = () -> withTape(USUAL, tape);
                if (had + n <= 120) {
                    edges.answers(floor, had + n, "feed", 0, n);
                } else {
                    edges.refused(floor, Due.FULL, "feed", 0, n);
                }
            }
        }
        edges.refused(FULL, Due.BEYOND, "feed", 0, 0);
        edges.refused(FULL, Due.BEYOND, "feed", 0, 5);
        edges.refused(FULL, Due.BEYOND, "feed", 0, Integer.MAX_VALUE);
    }

    /** The highest of the lowest bytes comes first: told by a text. */
    private static void feedWhichBytes() {
        RingingRock x = new RingingRock();
        due.is("4 bytes", x.feed(0x64656166, 4), 4);
        due.is("deaf", x.text(), 1);
        due.is("3 bytes", x.feed(0xff686f6c, 3), 3);
        due.is("1 byte", x.feed(0x20202065, 1), 4);
        due.is("2 bytes", x.feed(0x78783335, 2), 6);
        due.is("hole35", x.text(), 1);
        due.is("a hole", x.cells(2), 1L << 35);
        x.feed(0x69726f6e, 4);
        x.feed(0xff, 1);
        due.is("a byte of 255 at place 4", x.text(), -5);
        x.feed(0x69726f6e, 4);
        x.feed(0x00000030, 2);
        due.is("a byte of 0 at place 4", x.text(), -5);
    }

    // ---- promise 40

    private static void wipeEmptyAndFull() {
        edges.answers(EMPTY, 0, "wipe");
        edges.answers(USUAL, 13, "wipe");
        edges.answers(FULL, 120, "wipe");
        edges.answers(() -> withTape(EMPTY, "x"), 1, "wipe");
        RingingRock x = Edges.full();
        x.wipe();
        due.is("no bytes", x.count(5), 0);
        due.is("no bytes", x.wipe(), 0);
        due.is("bytes again", x.feed(0, 4), 4);
    }

    // ---- promise 41

    private static void emptyAndBlankTexts() {
        fault(USUAL, "", 0);
        fault(USUAL, " ", 1);
        fault(USUAL, times(119, " "), 119);
        fault(USUAL, times(120, " "), 120);
        fault(USUAL, "mute;", 5);
        fault(USUAL, "mute; ", 6);
        fault(USUAL, ";", 0);
        fault(USUAL, " ;", 1);
        fault(USUAL, "mute;;", 5);
        items(USUAL, " iron 3 ", 1, x -> x.stuff(3, 4));
        items(USUAL, "   iron   3   ;   water   4   ", 2, x -> {
            x.stuff(3, 4);
            x.stuff(4, 3);
        });
        items(USUAL, "iron3to4;water5", 2, x -> {
            x.stuff(3, 4);
            x.stuff(4, 4);
            x.stuff(5, 3);
        });
    }

    private static void eachByteAlone() {
        for (int b = 0; b < 256; b++) {
            fault(EMPTY, String.valueOf((char) b), b == ' ' ? 1 : 0);
        }
    }

    private static void eachByteBehindAWord() {
        for (int b = 0; b < 256; b++) {
            String text = "iron 3" + (char) b;
            if (b == ' ') {
                items(EMPTY, text, 1, x -> x.stuff(3, 4));
            } else if (b >= '0' && b <= '5') {
                int cell = 30 + b - '0';
                items(EMPTY, text, 1, x -> x.stuff(cell, 4));
            } else {
                fault(EMPTY, text, b >= '6' && b <= '9' ? 5 : b == ';' ? 7 : 6);
            }
            boolean isLetter = b >= 'a' && b <= 'z';
            if (b == ' ') {
                items(EMPTY, "bell ", 1, x -> x.crew(3, 0));
            } else {
                fault(EMPTY, "bell" + (char) b, isLetter ? 0 : b == ';' ? 5 : 4);
                fault(EMPTY, "bel" + (char) b + "l", 0);
            }
        }
    }

    private static void crewAt(RingingRock x, int kind, int cell, int force) {
        int crew = x.crew(kind, cell);
        x.change(crew, 2, force);
    }

    private static void numbersOfCrews() {
        String[] words = {"crew", "hammer", "drill", "bell", "soft", "mute", "deaf"};
        for (int i = 0; i <= 6; i++) {
            int kind = i;
            String word = words[i];
            int end = word.length();
            items(USUAL, word, 1, x -> x.crew(kind, 0));
            items(USUAL, word + " at 0", 1, x -> x.crew(kind, 0));
            items(USUAL, word + " at 35", 1, x -> x.crew(kind, 35));
            items(USUAL, word + " force 1", 1, x -> crewAt(x, kind, 0, 1));
            items(USUAL, word + " force 20", 1, x -> crewAt(x, kind, 0, 20));
            items(USUAL, word + " at 35 force 20", 1, x -> crewAt(x, kind, 35, 20));
            fault(USUAL, word + " at 36", end + 4);
            fault(USUAL, word + " at -1", end + 4);
            fault(USUAL, word + " at", end + 3);
            fault(USUAL, word + " at force 3", end + 4);
            fault(USUAL, word + " force 0", end + 7);
            fault(USUAL, word + " force 21", end + 7);
            fault(USUAL, word + " force", end + 6);
            fault(USUAL, word + " at 36 force 21", end + 4);
            fault(USUAL, word + " force 3 at 3", end + 9);
            fault(USUAL, word + " at 3 at 3", end + 6);
            fault(USUAL, word + " force 3 force 3", end + 9);
            fault(USUAL, word + " 3", end + 1);
            fault(USUAL, word + " to 3", end + 1);
        }
    }

    private static void numbersOfStuffs() {
        String[] words = {"rock", "rubble", "hole", "water", "iron"};
        for (int i = 0; i <= 4; i++) {
            int stuff = i;
            String word = words[i];
            int end = word.length();
            items(USUAL, word + " 0", 1, x -> x.stuff(0, stuff));
            items(USUAL, word + " 35", 1, x -> x.stuff(35, stuff));
            items(USUAL, word + " 0 to 0", 1, x -> x.stuff(0, stuff));
            items(USUAL, word + " 35 to 35", 1, x -> x.stuff(35, stuff));
            items(USUAL, word + " 7 to 8", 1, x -> {
                x.stuff(7, stuff);
                x.stuff(8, stuff);
            });
            items(EMPTY, word + " 0 to 35", 1, x -> {
                for (int c = 0; c < 36; c++) {
                    x.stuff(c, stuff);
                }
            });
            fault(USUAL, word + " 36", end + 1);
            fault(USUAL, word, end);
            fault(USUAL, word + " to 3", end + 1);
            fault(USUAL, word + " 3 to 36", end + 6);
            fault(USUAL, word + " 3 to 2", end + 6);
            fault(USUAL, word + " 35 to 34", end + 7);
            fault(USUAL, word + " 3 to", end + 5);
            fault(USUAL, word + " 3 to 4 to 5", end + 8);
            fault(USUAL, word + " 3 4", end + 3);
            fault(USUAL, word + " 3 at 4", end + 3);
        }
    }

    private static void numbersOfHeard() {
        items(USUAL, "heard 0 0 0", 1, x -> x.book(0, 0, 0));
        items(USUAL, "heard 35 0 99", 1, x -> x.book(35, 0, 99));
        items(USUAL, "heard 0 35 0", 1, x -> x.book(0, 35, 0));
        fault(USUAL, "heard 36 0 0", 6);
        fault(USUAL, "heard 0 36 0", 8);
        fault(USUAL, "heard 0 0 100", 10);
        fault(USUAL, "heard 36 36 100", 6);
        fault(USUAL, "heard", 5);
        fault(USUAL, "heard 0", 7);
        fault(USUAL, "heard 0 0", 9);
        fault(USUAL, "heard 0 0; 0", 9);
        fault(USUAL, "heard at 0", 6);
        fault(USUAL, "heard 0 at 0", 8);
        fault(USUAL, "heard 0 0 at", 10);
        fault(USUAL, "heard 0 0 0 0", 12);
    }

    private static void numbersOfUnsure() {
        items(USUAL, "unsure 0", 1, x -> x.unsure(0));
        items(USUAL, "unsure 35", 1, x -> x.unsure(35));
        fault(USUAL, "unsure 36", 7);
        fault(USUAL, "unsure", 6);
        fault(USUAL, "unsure at", 7);
        fault(USUAL, "unsure 1 2", 9);
        fault(USUAL, "unsure 1 to 2", 9);
    }

    private static void greatNumbers() {
        String[] great = {"36", "99", "100", "255", "256", "291", "998", "999", "1000", "1003", "9999", "32771", "65539",
            "4294967299", "2147483651", "18446744073709551619", "3000000000000000000000000000000000000000000"};
        for (String number : great) {
            fault(USUAL, "unsure " + number, 7);
            fault(USUAL, "iron " + number, 5);
            fault(USUAL, "iron 3 to " + number, 10);
            fault(USUAL, "heard 3 3 " + (number.length() > 2 ? number : "100"), 10);
            fault(USUAL, "mute force " + number, 11);
        }
        items(USUAL, "iron 00000000000000000000000000000000000003", 1, x -> x.stuff(3, 4));
        items(USUAL, "iron 000", 1, x -> x.stuff(0, 4));
        fault(USUAL, "mute force 000", 11);
        fault(USUAL, "iron 00036", 5);
    }

    // ---- the full

    private static void seventhCrew() {
        items(EMPTY, "crew;crew;crew;crew;crew;crew", 6, x -> {
            for (int i = 0; i < 6; i++) {
                x.crew(0, 0);
            }
        });
        fault(EMPTY, "crew;crew;crew;crew;crew;crew;crew", 30);
        fault(EMPTY, "crew;crew;crew;crew;crew;crew; deaf at 99", 31);
        items(USUAL, "crew;crew", 2, x -> {
            x.crew(0, 0);
            x.crew(0, 0);
        });
        fault(USUAL, "crew;crew;crew", 10);
        for (String word : new String[] {"crew", "hammer", "drill", "bell", "soft", "mute", "deaf"}) {
            fault(FULL, word, 0);
            fault(FULL, "iron 3; " + word + " at 36", 8);
            fault(FULL, word + "s", 0);
        }
        items(FULL, "iron 3", 1, x -> x.stuff(3, 4));
    }

    private static void ninthInBooks() {
        items(EMPTY, times(7, "heard 0 1 2;") + "heard 0 1 3", 8, x -> {
            for (int i = 0; i < 8; i++) {
                x.book(0, 1, i < 7 ? 2 : 3);
            }
        });
        fault(EMPTY, times(8, "heard 0 1 2;") + "heard 0 1 2", 96);
        fault(EMPTY, times(8, "heard 0 1 2;") + " heard 99", 97);
        fault(FULL, "heard 0 1 2", 0);
        fault(FULL, "iron 3;heard 36 1 2", 7);
        fault(FULL, "iron 3;heard", 7);
    }

    private static void fifthUnsure() {
        items(EMPTY, "unsure 0;unsure 1;unsure 2;unsure 35", 4, x -> {
            x.unsure(0);
            x.unsure(1);
            x.unsure(2);
            x.unsure(35);
        });
        fault(EMPTY, "unsure 0;unsure 1;unsure 2;unsure 35;unsure 4", 37);
        fault(EMPTY, "unsure 0;unsure 1;unsure 2;unsure 35;unsure 0", 37);
        fault(FULL, "unsure 4", 0);
        fault(FULL, "unsure 33", 0);
        fault(FULL, "iron 3;  unsure 99", 9);
    }

    private static void unsureAlready() {
        fault(USUAL, "unsure 33", 7);
        fault(USUAL, "unsure 8", 7);
        fault(USUAL, "unsure 0; unsure 8", 17);
        fault(USUAL, "unsure 3; unsure 3", 17);
        fault(EMPTY, "unsure 0; unsure 0", 17);
        items(USUAL, "unsure 7; unsure 9", 2, x -> {
            x.unsure(7);
            x.unsure(9);
        });
    }

    private static void textsOf120Bytes() {
        String most = times(6, "deaf;") + times(14, "iron0;");
        items(EMPTY, most + "iron35", 21, x -> {
            for (int i = 0; i < 6; i++) {
                x.crew(6, 0);
            }
            x.stuff(0, 4);
            x.stuff(35, 4);
        });
        fault(EMPTY, most + "iron0;", 120);
        fault(EMPTY, most + "iron0?", 119);
        fault(EMPTY, most + "iron36", 118);
        fault(EMPTY, most + "iron  ", 120);
        fault(EMPTY, most + "ironic", 114);
        fault(EMPTY, times(120, "a"), 0);
        fault(EMPTY, times(120, "0"), 0);
        fault(EMPTY, times(120, ";"), 0);
        items(EMPTY, "iron" + times(116, "0"), 1, x -> x.stuff(0, 4));
        items(EMPTY, times(116, " ") + "deaf", 1, x -> x.crew(6, 0));
        items(EMPTY, "deaf" + times(116, " "), 1, x -> x.crew(6, 0));
    }

    private static void itemByItem() {
        items(EMPTY, "iron 0 to 35; hole 3; rock 3; unsure 3; soft at 3; heard 3 4 1", 6, x -> {
            for (int c = 0; c < 36; c++) {
                x.stuff(c, c == 3 ? 0 : 4);
            }
            x.unsure(3);
            x.crew(4, 3);
            x.book(3, 4, 1);
        });
    }

    private static void textTwice() {
        RingingRock x = withTape(EMPTY, "deaf");
        due.is("a text", x.text(), 1);
        due.is("it is empty then", x.text(), -1);
        due.is("a fault", withTape(EMPTY, "deaf?").text(), -5);
        x = withTape(EMPTY, "deaf?");
        x.text();
        due.is("it is empty then", x.text(), -1);
        due.is("no findings", x.status(-1), 0);
    }

    /** Texts cut off anywhere, and with one byte changed anywhere: as the plain model tells. */
    private static void cutAndChangedTexts() {
        String[] texts = {"bell at 35 force 20; hole 3 to 35; heard 0 35 99;unsure 35", "crew;crew at 1;deaf force 9;soft;mute;drill;iron 1 to 2"};
        String others = "a0z95;t /: `{?";
        for (String text : texts) {
            for (int i = 0; i <= text.length(); i++) {
                asModel(text.substring(0, i));
                asModel(text.substring(i));
                for (int k = 0; k < others.length(); k++) {
                    String other = others.substring(k, k + 1);
                    asModel(text.substring(0, i) + other + text.substring(i));
                    asModel(text.substring(0, i) + other + text.substring(Math.min(i + 1, text.length())));
                }
            }
        }
    }

    private static void asModel(String text) {
        PlainModel model = new PlainModel();
        for (int i = 0; i < text.length(); i++) {
            model.feed(text.charAt(i), 1);
        }
        due.is("'" + text + "'", withTape(EMPTY, text).text(), model.text());
    }
}
