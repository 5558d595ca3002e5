import java.util.function.Supplier;

/** The boundaries of 'Terms' 3 on spots and sheets, and of promises 42 to 48. */
public final class SheetEdgesTest {

    private static final Edges edges = new Edges();
    private static final Due due = edges.due;
    private static final Supplier<RingingRock> EMPTY = Edges::empty;
    private static final Supplier<RingingRock> USUAL = Edges::usual;
    private static final Supplier<RingingRock> FULL = Edges::full;
    private static final int[] BITS = {8, 16, 32};

    public static void main(String[] args) {
        holdEnds();
        holdAllSpots();
        asEnds();
        asMissingAndKind();
        sheetEnds();
        sheetOfOtherBits();
        sheetSizes();
        sheetIsAnew();
        writeEnds();
        writeMissing();
        writeLowestBits();
        copyEnds();
        copyMissing();
        copyOfOtherBits();
        copyBeyond();
        copyWhole();
        copyAsTheyWere();
        loadEnds();
        loadNoneAndAll();
        loadStopsAt();
        judgeEnds();
        judgeOrder();
        judgeNoneAndAll();
        judgeTo127();
        sheetLeavesOthers();
        writeAndCopyLeaveOthers();
        loadAndJudgeTheirOwn();
        due.end();
    }

    /** A floor on which a sheet has some numbers. */
    private static Supplier<RingingRock> sheetOf(int s, int bits, int... numbers) {
        return () -> {
            RingingRock x = new RingingRock();
            fill(x, s, bits, numbers);
            return x;
        };
    }

    private static void fill(RingingRock x, int s, int bits, int... numbers) {
        x.sheet(s, bits, numbers.length);
        for (int i = 0; i < numbers.length; i++) {
            x.write(s, i, numbers[i]);
        }
    }

    private static int[] many(int n, int number) {
        int[] numbers = new int[n];
        java.util.Arrays.fill(numbers, number);
        return numbers;
    }

    // ---- promise 42

    private static void holdEnds() {
        edges.ends(USUAL, 0, 0, 9, "hold", 1, 2);
        edges.ends(USUAL, 1, -1, 3, "hold", 1, 2);
        edges.ends(FULL, 1, -1, 5, "hold", 1, 2);
        edges.ends(EMPTY, 1, -1, -1, "hold", 1, -1);
        edges.refused(EMPTY, Due.BEYOND, "hold", 0, 0);
        edges.refused(USUAL, Due.BEYOND, "hold", 10, 4);
        edges.answers(USUAL, 1, "hold", 0, 0);
        edges.answers(USUAL, 1, "hold", 9, -1);
        edges.answers(USUAL, 1, "hold", 1, -1);
    }

    private static void holdAllSpots() {
        RingingRock x = Edges.usual();
        for (int spot = 0; spot <= 9; spot++) {
            due.is("hold", x.hold(spot, 3), 1);
        }
        due.is("all hold something", x.count(7), 10);
        for (int spot = 0; spot <= 9; spot++) {
            due.is("it is held", x.as(spot, 3), 3);
            due.is("nothing", x.hold(spot, -1), 1);
            due.is("nothing", x.as(spot, 3), Due.MISSING);
            due.is("one less", x.count(7), 9 - spot);
        }
    }

    // ---- promise 43

    private static void asEnds() {
        edges.ends(USUAL, 0, 0, 9, "as", 0, 0);
        Supplier<RingingRock> deaf = () -> {
            RingingRock x = Edges.told("deaf");
            x.hold(4, 0);
            return x;
        };
        edges.ends(deaf, 1, 0, 6, "as", 4, 0);
        edges.onlyTells(USUAL, "as", 9, 1);
        edges.refused(USUAL, Due.BEYOND, "as", 1, 7);
        edges.refused(USUAL, Due.BEYOND, "as", 1, -1);
        edges.refused(USUAL, Due.BEYOND, "as", 10, 7);
    }

    private static void asMissingAndKind() {
        String[] words = {"crew", "hammer", "drill", "bell", "soft", "mute", "deaf"};
        String[] lines = {"0", "10", "210", "3210", "40", "540", "60"};
        for (int kind = 0; kind <= 6; kind++) {
            String told = "crew; " + words[kind];
            Supplier<RingingRock> floor = () -> {
                RingingRock x = Edges.told(told);
                x.hold(9, 1);
                return x;
            };
            for (int asked = 0; asked <= 6; asked++) {
                if (lines[kind].indexOf('0' + asked) >= 0) {
                    edges.answers(floor, 1, "as", 9, asked);
                } else {
                    edges.refused(floor, Due.KIND, "as", 9, asked);
                }
                edges.refused(floor, Due.MISSING, "as", 8, asked);
            }
        }
    }

    // ---- promise 44

    private static void sheetEnds() {
        edges.ends(USUAL, 0, 0, 3, "sheet", 1, 8, 7);
        edges.ends(USUAL, 0, 0, 3, "sheet", 1, 0, 7);
        edges.refused(USUAL, Due.BEYOND, "sheet", 4, 8, -1);
        edges.refused(USUAL, Due.BEYOND, "sheet", -1, 8, -1);
        edges.refused(USUAL, Due.BEYOND, "sheet", 4, 9, 41);
    }

    private static void sheetOfOtherBits() {
        int[] others = {-32, -16, -8, -1, 1, 7, 9, 15, 17, 24, 31, 33, 64, 256 + 8, Integer.MIN_VALUE, Integer.MAX_VALUE};
        for (int bits : others) {
            edges.refused(USUAL, Due.BEYOND, "sheet", 0, bits, 7);
            edges.refused(USUAL, Due.BEYOND, "sheet", 3, bits, -1);
            edges.refused(USUAL, Due.BEYOND, "sheet", 3, bits, 41);
        }
    }

    private static void sheetSizes() {
        for (int s = 0; s <= 3; s++) {
            for (int bits : new int[] {0, 8, 16, 32}) {
                for (int n : new int[] {-1, -41, Integer.MIN_VALUE}) {
                    edges.refused(USUAL, Due.SIZE, "sheet", s, bits, n);
                }
                for (int n : new int[] {41, 42, Integer.MAX_VALUE}) {
                    edges.refused(USUAL, Due.BEYOND, "sheet", s, bits, n);
                }
                for (int n : new int[] {0, 1, 39, 40}) {
                    edges.answers(USUAL, bits == 0 ? 0 : n, "sheet", s, bits, n);
                }
            }
        }
    }

    /** A sheet that is made anew has so many numbers, all 0; one of 0 bits is missing. */
    private static void sheetIsAnew() {
        for (int s = 0; s <= 3; s++) {
            for (int bits : BITS) {
                for (int n : new int[] {0, 1, 36, 40}) {
                    RingingRock x = new RingingRock();
                    fill(x, s, 32, many(40, -1));
                    due.is("sheet", x.sheet(s, bits, n), n);
                    due.is("all are 0", x.load(s), Math.min(n, 36));
                    due.is("its last number", x.write(s, n - 1, 0), n == 0 ? Due.BEYOND : 1);
                    due.is("the number behind it", x.write(s, n, 0), Due.BEYOND);
                    due.is("missing", x.sheet(s, 0, n), 0);
                    due.is("missing", x.load(s), Due.MISSING);
                    due.is("there again", x.sheet(s, bits, 40), 40);
                    due.is("all are 0", x.load(s), 36);
                    due.is("the last four, too", x.copy(s, 36, s, 0, 4), 4);
                    due.is("the last four, too", x.load(s), 36);
                    due.is("all is rock", x.cells(0), Edges.ALL);
                }
            }
        }
        RingingRock x = Edges.usual();
        RingingRock twin = Edges.usual();
        x.sheet(3, 0, 40);
        edges.alike("a missing one that is made missing", x, twin);
    }

    // ---- promise 45

    private static void writeEnds() {
        Supplier<RingingRock> all = () -> {
            RingingRock x = new RingingRock();
            for (int s = 0; s <= 3; s++) {
                x.sheet(s, 8, 1 + s);
            }
            return x;
        };
        edges.ends(all, 0, 0, 3, "write", 1, 0, 3);
        for (int s = 0; s <= 3; s++) {
            edges.ends(all, 1, 0, s, "write", s, 0, 3);
        }
        edges.ends(USUAL, 1, 0, 4, "write", 0, 0, 3);
        edges.ends(USUAL, 1, 0, 39, "write", 1, 0, 3);
        for (int i : new int[] {-1, 0, 1, 40}) {
            edges.refused(USUAL, Due.BEYOND, "write", 2, i, 3);
        }
        edges.answers(USUAL, 1, "write", 1, 39, Integer.MIN_VALUE);
    }

    private static void writeMissing() {
        for (int i : new int[] {-1, 0, 39, 40, Integer.MAX_VALUE}) {
            edges.refused(USUAL, Due.MISSING, "write", 3, i, 0);
            edges.refused(USUAL, Due.BEYOND, "write", 4, i, 0);
        }
    }

    /** What a number becomes is told by load(), if it is 0 to 4. */
    private static void writeLowestBits() {
        int[] wraps = {1 << 8, 1 << 16, 0};
        for (int k = 0; k < 3; k++) {
            for (int number = 0; number <= 4; number++) {
                for (int rounds : new int[] {0, 1, -1, 127, -128}) {
                    edges.answers(sheetOf(0, BITS[k], number + rounds * wraps[k]), 1, "load", 0);
                }
            }
            for (int none : new int[] {-1, 5, 127, 128, 255}) {
                edges.answers(sheetOf(0, BITS[k], none), 0, "load", 0);
            }
            edges.answers(sheetOf(0, BITS[k], 256), k == 0 ? 1 : 0, "load", 0);
            edges.answers(sheetOf(0, BITS[k], 65536), k < 2 ? 1 : 0, "load", 0);
            edges.answers(sheetOf(0, BITS[k], Integer.MIN_VALUE), k < 2 ? 1 : 0, "load", 0);
        }
    }

    // ---- promise 46

    private static final Supplier<RingingRock> FOUR = () -> {
        RingingRock x = new RingingRock();
        fill(x, 0, 16, 1, 2, 3, 4);
        fill(x, 1, 16, 0, 0);
        fill(x, 2, 16);
        fill(x, 3, 16, many(40, 3));
        return x;
    };

    private static void copyEnds() {
        edges.ends(FOUR, 0, 0, 3, "copy", 1, 0, 1, 0, 1);
        edges.ends(FOUR, 2, 0, 3, "copy", 1, 0, 1, 0, 1);
        for (int s : new int[] {-1, 4}) {
            edges.refused(USUAL, Due.BEYOND, "copy", s, 0, 3, 0, 0);
            edges.refused(USUAL, Due.BEYOND, "copy", 3, 0, s, 0, 0);
            edges.refused(USUAL, Due.BEYOND, "copy", s, -1, s, -1, -1);
        }
    }

    private static void copyMissing() {
        for (int other = 0; other <= 2; other++) {
            edges.refused(USUAL, Due.MISSING, "copy", 3, 0, other, 0, 0);
            edges.refused(USUAL, Due.MISSING, "copy", other, 0, 3, 0, 0);
            edges.refused(USUAL, Due.MISSING, "copy", other, -1, 3, -1, -1);
        }
        edges.refused(USUAL, Due.MISSING, "copy", 3, 0, 3, 0, 0);
    }

    private static void copyOfOtherBits() {
        for (int s = 0; s <= 2; s++) {
            for (int other = 0; other <= 2; other++) {
                if (s != other) {
                    edges.refused(USUAL, Due.KIND, "copy", s, 0, other, 0, 0);
                    edges.refused(USUAL, Due.KIND, "copy", s, -1, other, 0, 0);
                    edges.refused(USUAL, Due.KIND, "copy", s, 0, other, 41, 99);
                } else {
                    edges.answers(USUAL, 0, "copy", s, 0, other, 0, 0);
                }
            }
        }
    }

    private static void copyBeyond() {
        edges.answers(FOUR, 2, "copy", 0, 2, 1, 0, 2);
        edges.refused(FOUR, Due.BEYOND, "copy", 0, 3, 1, 0, 2);
        edges.refused(FOUR, Due.BEYOND, "copy", 0, 0, 1, 0, 3);
        edges.refused(FOUR, Due.BEYOND, "copy", 0, 0, 1, 1, 2);
        edges.refused(FOUR, Due.BEYOND, "copy", 1, 0, 0, 0, 3);
        edges.refused(FOUR, Due.BEYOND, "copy", 1, 1, 0, 0, 2);
        edges.answers(FOUR, 1, "copy", 0, 3, 1, 1, 1);
        edges.refused(FOUR, Due.BEYOND, "copy", 0, 4, 1, 0, 1);
        edges.refused(FOUR, Due.BEYOND, "copy", 0, 0, 1, 2, 1);
        edges.refused(FOUR, Due.BEYOND, "copy", 0, 0, 2, 0, 1);
        edges.refused(FOUR, Due.BEYOND, "copy", 2, 0, 0, 0, 1);
        for (int far : new int[] {-1, Integer.MIN_VALUE, Integer.MAX_VALUE, Integer.MAX_VALUE - 1}) {
            edges.refused(FOUR, Due.BEYOND, "copy", 0, far, 1, 0, 1);
            edges.refused(FOUR, Due.BEYOND, "copy", 0, 0, 1, far, 1);
            edges.refused(FOUR, Due.BEYOND, "copy", 0, 1, 1, 1, far);
            edges.refused(FOUR, Due.BEYOND, "copy", 0, far, 1, far, far);
        }
        edges.refused(FOUR, Due.BEYOND, "copy", 0, -1, 1, 0, 0);
        edges.refused(FOUR, Due.BEYOND, "copy", 0, 0, 1, -1, 0);
        edges.refused(FOUR, Due.BEYOND, "copy", 0, 1, 1, 1, -1);
        edges.answers(FOUR, 0, "copy", 0, 4, 1, 2, 0);
        edges.answers(FOUR, 0, "copy", 2, 0, 2, 0, 0);
        edges.onlyTells(FOUR, "copy", 0, 4, 1, 2, 0);
        edges.onlyTells(FOUR, "copy", 0, 0, 0, 0, 4);
    }

    private static void copyWhole() {
        for (int bits : BITS) {
            RingingRock x = new RingingRock();
            fill(x, 0, bits, many(40, 4));
            x.sheet(3, bits, 40);
            due.is("all 40", x.copy(0, 0, 3, 0, 40), 40);
            due.is("all 36 cells", x.load(3), 36);
            due.is("of iron", x.cells(4), Edges.ALL);
            edges.refused(FOUR, Due.BEYOND, "copy", 3, 0, 3, 0, 41);
            x.write(0, 39, 2);
            due.is("the last one to the first", x.copy(0, 39, 3, 0, 1), 1);
            x.load(3);
            due.is("a hole", x.cells(2), 1);
            due.is("the first one to the last", x.copy(3, 0, 3, 35, 1), 1);
            x.load(3);
            due.is("two holes", x.cells(2), Due.set(0, 35));
        }
    }

    private static void copyAsTheyWere() {
        for (int from = 0; from <= 4; from++) {
            for (int to = 0; to <= 4; to++) {
                int n = 6 - Math.max(from, to);
                RingingRock x = new RingingRock();
                int[] numbers = {0, 1, 2, 3, 4, 1};
                fill(x, 0, 8, numbers);
                due.is("copy", x.copy(0, from, 0, to, n), n);
                int[] want = numbers.clone();
                System.arraycopy(numbers, from, want, to, n);
                x.load(0);
                for (int i = 0; i < 6; i++) {
                    due.is("from " + from + " to " + to + ": number " + i, x.stuff(i, 0), want[i]);
                }
            }
        }
    }

    // ---- promise 47

    private static void loadEnds() {
        edges.ends(FOUR, 0, 0, 3, "load", 1);
        edges.refused(USUAL, Due.MISSING, "load", 3);
        edges.refused(EMPTY, Due.MISSING, "load", 0);
        edges.refused(EMPTY, Due.BEYOND, "load", 4);
    }

    private static void loadNoneAndAll() {
        for (int bits : BITS) {
            edges.answers(sheetOf(0, bits), 0, "load", 0);
            edges.onlyTells(sheetOf(0, bits), "load", 0);
            for (int n : new int[] {1, 35, 36, 37, 40}) {
                RingingRock x = sheetOf(0, bits, many(n, 3)).get();
                due.is("load " + n, x.load(0), Math.min(n, 36));
                due.is("water", Long.bitCount(x.cells(3)), Math.min(n, 36));
            }
        }
    }

    private static void loadStopsAt() {
        for (int bits : BITS) {
            for (int none : new int[] {-1, 5, 127, -128}) {
                edges.answers(sheetOf(2, bits, none, 1), 0, "load", 2);
                edges.onlyTells(sheetOf(2, bits, none, 1), "load", 2);
                for (int place : new int[] {1, 35}) {
                    int[] numbers = many(40, 4);
                    numbers[place] = none;
                    RingingRock x = sheetOf(2, bits, numbers).get();
                    due.is("it ends at " + none, x.load(2), place);
                    due.is("those ahead of it", x.cells(4), (1L << place) - 1);
                    due.is("the others stay", x.cells(0), Edges.ALL & ~((1L << place) - 1));
                }
                int[] numbers = many(40, 4);
                numbers[36] = none;
                edges.answers(sheetOf(2, bits, numbers), 36, "load", 2);
            }
        }
    }

    // ---- promise 48

    private static void judgeEnds() {
        Supplier<RingingRock> floor = () -> {
            RingingRock x = FOUR.get();
            Edges.tell(x, "crew; mute at 35; bell");
            return x;
        };
        edges.ends(floor, 0, 0, 3, "judge", 1, 1);
        edges.ends(floor, 1, 0, 2, "judge", 1, 1);
        edges.onlyTells(floor, "judge", 3, 2);
    }

    private static void judgeOrder() {
        edges.refused(USUAL, Due.BEYOND, "judge", 4, 9);
        edges.refused(USUAL, Due.BEYOND, "judge", -1, 9);
        edges.refused(USUAL, Due.MISSING, "judge", 3, 0);
        edges.refused(USUAL, Due.MISSING, "judge", 3, 4);
        edges.refused(USUAL, Due.MISSING, "judge", 3, -1);
        edges.refused(USUAL, Due.BEYOND, "judge", 2, 4);
        edges.refused(USUAL, Due.BEYOND, "judge", 2, -1);
        edges.refused(FOUR, Due.BEYOND, "judge", 0, 0);
        edges.answers(USUAL, 0, "judge", 2, 3);
    }

    /** A mute one at 35 is heard there by 2, and nowhere else. */
    private static void judgeNoneAndAll() {
        for (int bits : BITS) {
            int[] numbers = many(40, -1);
            numbers[35] = 2;
            for (int n : new int[] {0, 1, 35, 36, 37, 40}) {
                edges.answers(muteAt35(bits, java.util.Arrays.copyOf(numbers, n)), 0, "judge", 0, 0);
            }
            for (int place = 0; place < 40; place++) {
                int[] others = numbers.clone();
                others[place] = 3;
                edges.answers(muteAt35(bits, others), place < 36 ? 1 + place : 0, "judge", 0, 0);
            }
            edges.answers(muteAt35(bits, many(40, -1)), 36, "judge", 0, 0);
            edges.answers(muteAt35(bits, many(40, 0)), 1, "judge", 0, 0);
            edges.answers(muteAt35(bits, many(40, Due.NONE)), 1, "judge", 0, 0);
            edges.answers(muteAt35(bits, many(40, 99)), 1, "judge", 0, 0);
        }
        edges.answers(muteAt35(8, 255), 0, "judge", 0, 0);
        edges.answers(muteAt35(16, 255), 1, "judge", 0, 0);
        edges.answers(muteAt35(16, 65535), 0, "judge", 0, 0);
        edges.answers(muteAt35(32, 65535), 1, "judge", 0, 0);
        edges.answers(muteAt35(32, -1), 0, "judge", 0, 0);
    }

    private static Supplier<RingingRock> muteAt35(int bits, int... numbers) {
        return () -> {
            RingingRock x = Edges.told("mute at 35");
            fill(x, 0, bits, numbers);
            return x;
        };
    }

    /** By 8 bits 127 is a number, 128 is -128. */
    private static void judgeTo127() {
        for (int time : new int[] {126, 127, 128, 138}) {
            for (int bits : BITS) {
                Way way = new Way(time);
                way.crew(1, 0, 20);
                way.x.sheet(0, bits, 36);
                for (int c = 0; c < 36; c++) {
                    int heard = way.x.heard(0, c);
                    way.x.write(0, c, heard == Due.NONE ? -1 : heard);
                }
                boolean fits = bits > 8 || time <= 127;
                int firstFar = 36;
                for (int c = 35; c >= 0; c--) {
                    firstFar = way.x.heard(0, c) > 127 ? c : firstFar;
                }
                due.is("heard by " + time + " in " + bits + " bits", way.x.judge(0, 0), fits ? 0 : 1 + firstFar);
                if (time == 127) {
                    way.x.write(0, way.end, -129);
                    due.is("-129 is 127 in 8 bits", way.x.judge(0, 0), bits == 8 ? 0 : 1 + way.end);
                    way.x.write(0, way.end, 127 - 65536);
                    due.is("127 by the lowest bits", way.x.judge(0, 0), bits <= 16 ? 0 : 1 + way.end);
                }
            }
        }
    }

    // ---- each sheet has numbers of its own

    /** A floor with four sheets of 40 numbers that are all alike. */
    private static RingingRock allSheets(int number) {
        RingingRock x = Edges.told("crew");
        for (int s = 0; s < 4; s++) {
            x.sheet(s, 8, 40);
            x.write(s, 0, number);
            for (int n = 1; n < 40; n *= 2) {
                x.copy(s, 0, s, n, Math.min(n, 40 - n));
            }
        }
        return x;
    }

    /** That all of a sheet's 40 numbers are one and the same STUFF; the floor is used up by it. */
    private static void allAre(String label, RingingRock x, int s, int stuff) {
        due.is(label + ": sheet " + s, x.load(s), 36);
        due.is(label + ": first 36 of sheet " + s, x.cells(stuff), Edges.ALL);
        x.stuff(0, 0);
        due.is(label + ": the others", x.copy(s, 36, s, 0, 4), 4);
        due.is(label + ": sheet " + s, x.load(s), 36);
        due.is(label + ": last 4 of sheet " + s, x.cells(stuff), Edges.ALL);
        due.is(label + ": no more", x.copy(s, 0, s, 1, 40), Due.BEYOND);
    }

    private static void othersAre(String label, RingingRock x, int s, int stuff) {
        for (int other = 0; other < 4; other++) {
            if (other != s) {
                allAre(label, x, other, stuff);
            }
        }
    }

    private static void sheetLeavesOthers() {
        for (int s = 0; s < 4; s++) {
            for (int n : new int[] {0, 1, 39, 40}) {
                for (int bits : new int[] {0, 8, 32}) {
                    RingingRock x = allSheets(3);
                    x.sheet(s, bits, n);
                    othersAre("sheet " + bits + " " + n, x, s, 3);
                }
            }
            RingingRock x = allSheets(3);
            x.sheet(s, 8, 40);
            allAre("anew", x, s, 0);
        }
    }

    private static void writeAndCopyLeaveOthers() {
        for (int s = 0; s < 4; s++) {
            RingingRock x = allSheets(3);
            x.write(s, 0, 4);
            x.write(s, 39, 4);
            othersAre("write", x, s, 3);
            for (int t = 0; t < 4; t++) {
                RingingRock y = allSheets(3);
                y.sheet(s, 8, 40);
                due.is("copy", y.copy(s, 0, t, 0, 40), 40);
                for (int other = 0; other < 4; other++) {
                    allAre("copy " + s + " " + t, y, other, other == s || other == t ? 0 : 3);
                }
            }
        }
    }

    /** What stands ahead of a sheet's first number and behind its last is no matter, were it no STUFF and no time. */
    private static void loadAndJudgeTheirOwn() {
        for (int s = 0; s < 4; s++) {
            for (int n : new int[] {0, 1, 5, 35, 36, 37, 40}) {
                RingingRock x = allSheets(99);
                x.sheet(s, 8, n);
                due.is("load, " + n + " in sheet " + s, x.load(s), Math.min(n, 36));
                for (int c = 0; c < Math.min(n, 36); c++) {
                    int time = c % 6 * 2 + c / 6 * 2;
                    x.write(s, c, time);
                }
                due.is("judge, " + n + " in sheet " + s, x.judge(s, 0), 0);
                x.write(s, 0, 1);
                due.is("judge, the first, " + n + " in sheet " + s, x.judge(s, 0), n == 0 ? 0 : 1);
            }
        }
    }
}
