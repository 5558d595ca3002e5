import java.util.Arrays;

/** Miners of a hollow moon knock on its floor to hear what rooms are under it. */
public final class RingingRock {

    // Findings: LOW less one of these; how often each was answered is counted in 'findings'.
    private static final int LOW = -1000001;
    private static final int BEYOND = 0;
    private static final int FULL = 1;
    private static final int KIND = 2;
    private static final int NONE = 3;
    private static final int STATE = 4;
    private static final int MISSING = 5;
    private static final int SIZE = 6;
    private static final int FINDINGS = 7;

    // Inside, a time, a cost, a spot or a search that has no answer tells this.
    private static final int NOTHING = -1;

    private static final int CELLS = 36;
    private static final int WIDTH = 6;
    private static final long ALL_CELLS = (1L << CELLS) - 1;
    private static final long FIRST_COLUMN = 0x041041041L;
    private static final long LAST_COLUMN = FIRST_COLUMN << (WIDTH - 1);

    private static final int STUFFS = 5;
    private static final int HOLE = 2;
    private static final int WATER = 3;
    private static final int[] PACES = {2, 6, 0, 3, 1};
    private static final int SLOWEST = 6;
    // No least way comes into more than all cells.
    private static final int LONGEST = CELLS * SLOWEST;
    private static final int WORDS = LONGEST / 64 + 1;

    private static final int CREW = 0;
    private static final int HAMMER = 1;
    private static final int DRILL = 2;
    private static final int BELL = 3;
    private static final int SOFT = 4;
    private static final int MUTE = 5;
    private static final int DEAF = 6;
    private static final int KINDS = 7;
    private static final int[] KIND_ABOVE = {NOTHING, CREW, HAMMER, DRILL, CREW, SOFT, CREW};

    private static final int MOST_CREWS = 6;
    private static final int MOST_FORCE = 20;
    private static final int FIRST_FORCE = 6;
    private static final int MOST_UNSURE = 4;
    private static final int MOST_BOOKS = 8;
    private static final int UNHEARD = 99;
    private static final int MOST_HOURS = 30;
    private static final int ALL_HOURS = 0x7fffffff;
    private static final int MOST_LATER = 60;
    private static final int LAST_YEAR = 999;
    private static final int MOST_YEARS = 60;
    private static final int SPOTS = 10;
    private static final int SHEETS = 4;
    private static final int MOST_NUMBERS = 40;

    private final Mine now = new Mine();
    private final Mine kept = new Mine();
    private boolean isKept;
    // Maps, years ahead and texts are tried here, so that 'now' stays as it is.
    private final Mine draft = new Mine();
    private final Tape tape = new Tape();
    // A sheet of 0 bits is missing; its numbers stand from MOST_NUMBERS times its number on.
    private final int[] sheetBits = new int[SHEETS];
    private final int[] sheetSizes = new int[SHEETS];
    private final int[] sheetNumbers = new int[SHEETS * MOST_NUMBERS];
    private final int[] findings = new int[FINDINGS];
    // Rows of a time for each cell, used again by every call.
    private final int[] times = new int[CELLS];
    private final int[] otherTimes = new int[CELLS];
    // For each crew a set of times, in WORDS of 64 bits.
    private final long[] seen = new long[MOST_CREWS * WORDS];

    public RingingRock() {
    }

    // ---- rock, crews

    public int stuff(int cell, int v) {
        if (!isCell(cell) || !isStuff(v)) {
            return finding(BEYOND);
        }
        int was = now.rock.stuffAt(cell);
        now.rock.put(cell, v);
        return was;
    }

    public int crew(int kind, int cell) {
        if (!isKind(kind) || !isCell(cell)) {
            return finding(BEYOND);
        }
        if (now.crews >= MOST_CREWS) {
            return finding(FULL);
        }
        now.addCrew(kind, cell, FIRST_FORCE);
        return now.crews - 1;
    }

    public int of(int crew, int what) {
        if (!isCrew(crew)) {
            return finding(BEYOND);
        }
        switch (what) {
            case 0: return now.kindOf(crew);
            case 1: return now.placeOf(crew);
            case 2: return now.forceOf(crew);
            case 3: return now.carriesOf(crew);
            case 4: return startsAs(now.kindOf(crew));
            case 5: return hearsByAs(now.kindOf(crew));
            default: return finding(BEYOND);
        }
    }

    public int change(int crew, int what, int v) {
        if (!isCrew(crew)) {
            return finding(BEYOND);
        }
        if (what == 0 && isKind(v)) {
            return exchange(now.kinds, crew, v);
        }
        if (what == 1 && isCell(v)) {
            return exchange(now.places, crew, v);
        }
        if (what == 2 && lies(v, 1, MOST_FORCE)) {
            return exchange(now.forces, crew, v);
        }
        return finding(BEYOND);
    }

    public long cells(int stuff) {
        return isStuff(stuff) ? now.rock.cellsOf(stuff) : finding(BEYOND);
    }

    public int unsure(int cell) {
        if (!isCell(cell)) {
            return finding(BEYOND);
        }
        if (now.isUnsure(cell)) {
            return finding(STATE);
        }
        if (now.unsures >= MOST_UNSURE) {
            return finding(FULL);
        }
        now.addUnsure(cell);
        return now.unsures;
    }

    public int sure() {
        int were = now.unsures;
        now.unsures = 0;
        return were;
    }

    // ---- sound

    public int time(int from, int to) {
        if (!isCell(from) || !isCell(to)) {
            return finding(BEYOND);
        }
        return orNone(now.rock.timeBetween(from, to));
    }

    public int heard(int crew, int cell) {
        if (!isCrew(crew) || !isCell(cell)) {
            return finding(BEYOND);
        }
        return orNone(now.heardAt(crew, cell));
    }

    public long reach(int crew) {
        return isCrew(crew) ? now.reachOf(crew) : finding(BEYOND);
    }

    public int hears(int crew) {
        if (!isCrew(crew)) {
            return finding(BEYOND);
        }
        int limit = hearsByAs(now.kindOf(crew));
        int set = 0;
        for (int other = 0; other < now.crews; other++) {
            int heardAt = now.heardAt(other, now.placeOf(crew));
            if (other != crew && heardAt != NOTHING && heardAt <= limit) {
                set |= 1 << other;
            }
        }
        return set;
    }

    public int echo(int crew, int cell, int hole) {
        if (!isCrew(crew) || !isCell(cell) || !isCell(hole)) {
            return finding(BEYOND);
        }
        if (now.rock.stuffAt(hole) != HOLE) {
            return finding(STATE);
        }
        listenForEchoes(crew, cell);
        return orNone(echoOf(crew, hole));
    }

    public int chord(int crew, int cell, int i) {
        if (!isCrew(crew) || !isCell(cell) || !lies(i, 0, CELLS - 1)) {
            return finding(BEYOND);
        }
        listenForEchoes(crew, cell);
        int latest = NOTHING;
        for (int k = 0; k <= i; k++) {
            latest = echoBehind(latest, crew);
            if (latest == NOTHING) {
                return finding(NONE);
            }
        }
        return latest;
    }

    public int last(int crew, int cell) {
        if (!isCrew(crew) || !isCell(cell)) {
            return finding(BEYOND);
        }
        if (now.heardAt(crew, cell) == NOTHING) {
            return finding(NONE);
        }
        if (now.placeOf(crew) == cell) {
            return finding(STATE);
        }
        now.rock.timesFrom(now.placeOf(crew), times);
        int ahead = at(times, cell) - now.rock.paceOf(cell);
        long around = besides(setOf(cell));
        for (int c = 0; c < CELLS; c++) {
            if (has(around, c) && at(times, c) == ahead) {
                return c;
            }
        }
        return finding(NONE);
    }

    public int many(int cell) {
        if (!isCell(cell)) {
            return finding(BEYOND);
        }
        int heardHere = 0;
        for (int crew = 0; crew < now.crews; crew++) {
            if (now.heardAt(crew, cell) != NOTHING) {
                heardHere++;
            }
        }
        return heardHere;
    }

    public long silent() {
        return now.silentCells();
    }

    public int lag(int one, int other, int cell) {
        if (!areTwoCrews(one, other) || !isCell(cell)) {
            return finding(BEYOND);
        }
        int first = now.heardAt(one, cell);
        int second = now.heardAt(other, cell);
        if (first == NOTHING || second == NOTHING) {
            return finding(NONE);
        }
        return second - first;
    }

    public int apart(int one, int other) {
        if (!areTwoCrews(one, other)) {
            return finding(BEYOND);
        }
        now.fillHeard(one, times);
        now.fillHeard(other, otherTimes);
        int set = ALL_HOURS;
        for (int c = 0; c < CELLS; c++) {
            int first = at(times, c);
            int second = at(otherTimes, c);
            if (first != NOTHING && second != NOTHING && lies(first - second, 0, MOST_HOURS)) {
                set &= ~(1 << (first - second));
            }
        }
        return set;
    }

    // ---- who knocks back

    public long from(int one, int other, int u) {
        if (!areTwoCrews(one, other) || !lies(u, -MOST_LATER, MOST_LATER)) {
            return finding(BEYOND);
        }
        now.rock.timesTo(now.placeOf(one), times);
        now.rock.timesTo(now.placeOf(other), otherTimes);
        long set = 0;
        for (int c = 0; c < CELLS; c++) {
            int first = at(times, c);
            int second = at(otherTimes, c);
            if (first != NOTHING && second != NOTHING && second - first == u) {
                set |= setOf(c);
            }
        }
        return set;
    }

    public int middle() {
        if (now.crews == 0) {
            return finding(BEYOND);
        }
        int best = NOTHING;
        int least = LONGEST + 1;
        fillLongestTimes();
        for (int c = 0; c < CELLS; c++) {
            int longest = at(otherTimes, c);
            if (longest != NOTHING && longest < least) {
                best = c;
                least = longest;
            }
        }
        return orNone(best);
    }

    public int kindFor(int crew) {
        if (!isCrew(crew)) {
            return finding(BEYOND);
        }
        now.rock.timesFrom(now.placeOf(crew), times);
        int best = 0;
        int most = NOTHING;
        for (int kind = 0; kind < KINDS; kind++) {
            int hearers = hearersAs(crew, kind);
            if (hearers > most) {
                best = kind;
                most = hearers;
            }
        }
        return best;
    }

    public int place(int crew) {
        if (!isCrew(crew)) {
            return finding(BEYOND);
        }
        int best = 0;
        int most = NOTHING;
        for (int c = 0; c < CELLS; c++) {
            int heardIn = Long.bitCount(now.rock.cellsWithin(c, now.carriesOf(crew)));
            if (heardIn > most) {
                best = c;
                most = heardIn;
            }
        }
        return best;
    }

    // ---- books, maps

    public int book(int from, int to, int time) {
        if (!isCell(from) || !isCell(to) || !lies(time, 0, UNHEARD)) {
            return finding(BEYOND);
        }
        if (now.books >= MOST_BOOKS) {
            return finding(FULL);
        }
        now.addBook(from, to, time);
        return now.books;
    }

    public int burn() {
        int were = now.books;
        now.books = 0;
        return were;
    }

    public int wrong() {
        return orNone(now.firstWrong());
    }

    public int fits() {
        int fitting = 0;
        int maps = beginMaps();
        for (int m = 0; m < maps; m++) {
            if (draftFitsAs(m)) {
                fitting++;
            }
        }
        return fitting;
    }

    public int map(int what) {
        switch (what) {
            case 0: return orNone(leastFit());
            case 1: return orNone(nearestFit());
            case 2: return orNone(greatestFit());
            default: return finding(BEYOND);
        }
    }

    public int may(int i) {
        if (!lies(i, 0, now.unsures - 1)) {
            return finding(BEYOND);
        }
        int set = 0;
        int cell = at(now.unsureCells, i);
        int maps = beginMaps();
        for (int m = 0; m < maps; m++) {
            if (draftFitsAs(m)) {
                set |= 1 << draft.rock.stuffAt(cell);
            }
        }
        return set;
    }

    public int lays(int map) {
        if (!lies(map, 0, now.mapCount() - 1)) {
            return finding(BEYOND);
        }
        if (now.unsures == 0) {
            return finding(STATE);
        }
        int was = now.mapNow();
        now.layMap(map);
        return was;
    }

    public int asks(int cell) {
        if (!isCell(cell)) {
            return finding(BEYOND);
        }
        Arrays.fill(seen, 0);
        int maps = beginMaps();
        for (int m = 0; m < maps; m++) {
            if (draftFitsAs(m)) {
                draft.rock.timesTo(cell, times);
                markTimesOfCrews();
            }
        }
        return orNone(crewOfMostTimes());
    }

    // ---- digging

    public int dig(int from, int to) {
        if (!isCell(from) || !isCell(to)) {
            return finding(BEYOND);
        }
        return orNone(costOfWay(now.rock.dryCells(), now.rock.cellsOf(HOLE), from, to));
    }

    public int safe(int from, int to) {
        if (!isCell(from) || !isCell(to)) {
            return finding(BEYOND);
        }
        long open = now.rock.dryCells();
        boolean any = false;
        int maps = beginMaps();
        for (int m = 0; m < maps; m++) {
            if (draftFitsAs(m)) {
                any = true;
                open &= draft.rock.dryCells();
            }
        }
        if (!any) {
            return finding(NONE);
        }
        return orNone(costOfWay(open, now.rock.cellsOf(HOLE), from, to));
    }

    public long ways(int from) {
        if (!isCell(from)) {
            return finding(BEYOND);
        }
        long dry = now.rock.dryCells();
        return flood(setOf(from) & dry, dry);
    }

    // ---- years

    public int years(int n) {
        if (!lies(n, 1, MOST_YEARS)) {
            return finding(BEYOND);
        }
        if (now.year + n > LAST_YEAR) {
            return finding(STATE);
        }
        for (int i = 0; i < n; i++) {
            now.goOneYear();
        }
        return now.holes();
    }

    public int ahead(int n, int what) {
        if (!lies(n, 0, MOST_YEARS) || !lies(what, 0, 2)) {
            return finding(BEYOND);
        }
        if (now.year + n > LAST_YEAR) {
            return finding(STATE);
        }
        draft.become(now);
        for (int i = 0; i < n; i++) {
            draft.goOneYear();
        }
        switch (what) {
            case 0: return draft.holes();
            case 1: return Long.bitCount(draft.silentCells());
            default: return draft.rock.timeBetween(0, CELLS - 1);
        }
    }

    public int when(int crew, int cell) {
        if (!isCrew(crew) || !isCell(cell)) {
            return finding(BEYOND);
        }
        if (now.year + MOST_YEARS > LAST_YEAR) {
            return finding(STATE);
        }
        int heardNow = now.heardAt(crew, cell);
        draft.become(now);
        for (int n = 1; n <= MOST_YEARS; n++) {
            draft.goOneYear();
            if (draft.heardAt(crew, cell) != heardNow) {
                return n;
            }
        }
        return finding(NONE);
    }

    public int seed(int v) {
        int was = now.z;
        now.z = v;
        return was;
    }

    // ---- texts

    public int feed(int bytes, int n) {
        if (!lies(n, 1, 4)) {
            return finding(BEYOND);
        }
        if (tape.size + n > Tape.MOST_BYTES) {
            return finding(FULL);
        }
        for (int i = n - 1; i >= 0; i--) {
            tape.add(bytes >>> (8 * i) & 255);
        }
        return tape.size;
    }

    public int wipe() {
        int had = tape.size;
        tape.size = 0;
        return had;
    }

    public int text() {
        draft.become(now);
        int items = tape.readInto(draft);
        tape.size = 0;
        if (items > 0) {
            now.become(draft);
        }
        return items;
    }

    // ---- spots, sheets

    public int hold(int spot, int crew) {
        if (!isSpot(spot) || crew != NOTHING && !isCrew(crew)) {
            return finding(BEYOND);
        }
        exchange(now.spots, spot, crew);
        return 1;
    }

    public int as(int spot, int kind) {
        if (!isSpot(spot) || !isKind(kind)) {
            return finding(BEYOND);
        }
        int crew = at(now.spots, spot);
        if (crew == NOTHING) {
            return finding(MISSING);
        }
        return isOfKind(now.kindOf(crew), kind) ? crew : finding(KIND);
    }

    public int sheet(int s, int bits, int n) {
        if (!isSheet(s) || bits != 0 && bits != 8 && bits != 16 && bits != 32) {
            return finding(BEYOND);
        }
        if (n < 0) {
            return finding(SIZE);
        }
        if (n > MOST_NUMBERS) {
            return finding(BEYOND);
        }
        int size = bits == 0 ? 0 : n;
        exchange(sheetBits, s, bits);
        exchange(sheetSizes, s, size);
        for (int i = 0; i < size; i++) {
            exchange(sheetNumbers, s * MOST_NUMBERS + i, 0);
        }
        return size;
    }

    public int write(int s, int i, int v) {
        if (!isSheet(s)) {
            return finding(BEYOND);
        }
        if (isMissing(s)) {
            return finding(MISSING);
        }
        if (!lies(i, 0, at(sheetSizes, s) - 1)) {
            return finding(BEYOND);
        }
        exchange(sheetNumbers, s * MOST_NUMBERS + i, lowestBits(v, at(sheetBits, s)));
        return 1;
    }

    public int copy(int s, int from, int t, int to, int n) {
        if (!isSheet(s) || !isSheet(t)) {
            return finding(BEYOND);
        }
        if (isMissing(s) || isMissing(t)) {
            return finding(MISSING);
        }
        if (at(sheetBits, s) != at(sheetBits, t)) {
            return finding(KIND);
        }
        if (!hasNumbers(s, from, n) || !hasNumbers(t, to, n)) {
            return finding(BEYOND);
        }
        moveNumbers(sheetNumbers, s * MOST_NUMBERS + from, t * MOST_NUMBERS + to, n);
        return n;
    }

    public int load(int s) {
        if (!isSheet(s)) {
            return finding(BEYOND);
        }
        if (isMissing(s)) {
            return finding(MISSING);
        }
        int end = Math.min(at(sheetSizes, s), CELLS);
        for (int i = 0; i < end; i++) {
            int number = numberOf(s, i);
            if (!isStuff(number)) {
                return i;
            }
            now.rock.put(i, number);
        }
        return end;
    }

    public int judge(int s, int crew) {
        if (!isSheet(s)) {
            return finding(BEYOND);
        }
        if (isMissing(s)) {
            return finding(MISSING);
        }
        if (!isCrew(crew)) {
            return finding(BEYOND);
        }
        now.fillHeard(crew, times);
        int end = Math.min(at(sheetSizes, s), CELLS);
        for (int i = 0; i < end; i++) {
            if (numberOf(s, i) != at(times, i)) {
                return 1 + i;
            }
        }
        return 0;
    }

    // ---- images

    public int image() {
        kept.become(now);
        isKept = true;
        return 1;
    }

    public int undo() {
        if (!isKept) {
            return finding(NONE);
        }
        now.become(kept);
        return now.year;
    }

    public int tear() {
        int was = isKept ? 1 : 0;
        isKept = false;
        return was;
    }

    public int count(int what) {
        switch (what) {
            case 0: return now.year;
            case 1: return now.crews;
            case 2: return now.holes();
            case 3: return now.books;
            case 4: return now.unsures;
            case 5: return tape.size;
            case 6: return now.z;
            case 7: return now.heldSpots();
            default: return finding(BEYOND);
        }
    }

    public int status(int which) {
        if (!lies(which, -1, FINDINGS - 1)) {
            return finding(BEYOND);
        }
        if (which >= 0) {
            return at(findings, which);
        }
        int all = 0;
        for (int i = 0; i < FINDINGS; i++) {
            all += at(findings, i);
        }
        return all;
    }

    // ---- what the calls share

    /** Tells a finding, and counts it. */
    private int finding(int which) {
        exchange(findings, which, at(findings, which) + 1);
        return LOW - which;
    }

    private int orNone(int answer) {
        return answer == NOTHING ? finding(NONE) : answer;
    }

    private boolean isCrew(int crew) {
        return lies(crew, 0, now.crews - 1);
    }

    private boolean areTwoCrews(int one, int other) {
        return isCrew(one) && isCrew(other) && one != other;
    }

    private boolean isMissing(int s) {
        return at(sheetBits, s) == 0;
    }

    private int numberOf(int s, int i) {
        return at(sheetNumbers, s * MOST_NUMBERS + i);
    }

    /** Has a sheet n numbers from one on? The sum is a long, as both may be as great as an int. */
    private boolean hasNumbers(int s, int first, int n) {
        return first >= 0 && n >= 0 && (long) first + n <= at(sheetSizes, s);
    }

    /** Times from the crew into 'times', times to the cell into 'otherTimes'. */
    private void listenForEchoes(int crew, int cell) {
        now.rock.timesFrom(now.placeOf(crew), times);
        now.rock.timesTo(cell, otherTimes);
    }

    /** The echo of a hole, behind listenForEchoes. */
    private int echoOf(int crew, int hole) {
        long around = besides(setOf(hole));
        int least = NOTHING;
        for (int c = 0; c < CELLS; c++) {
            int there = at(times, c);
            int back = at(otherTimes, c);
            if (has(around, c) && there != NOTHING && back != NOTHING) {
                int whole = there + back + 1;
                least = least == NOTHING ? whole : Math.min(least, whole);
            }
        }
        if (least == NOTHING || least > now.carriesOf(crew)) {
            return NOTHING;
        }
        return least + startsAs(now.kindOf(crew));
    }

    /** The least echo of any hole that is later than a time, behind listenForEchoes. */
    private int echoBehind(int time, int crew) {
        int least = NOTHING;
        for (int hole = 0; hole < CELLS; hole++) {
            if (now.rock.stuffAt(hole) == HOLE) {
                int echo = echoOf(crew, hole);
                if (echo > time && (least == NOTHING || echo < least)) {
                    least = echo;
                }
            }
        }
        return least;
    }

    /** How many others hear a crew, were it of a kind; 'times' are those from it. */
    private int hearersAs(int crew, int kind) {
        int carries = carriesAs(kind, now.forceOf(crew));
        int hearers = 0;
        for (int other = 0; other < now.crews; other++) {
            int time = at(times, now.placeOf(other));
            boolean isHeard = time != NOTHING && time <= carries
                    && time + startsAs(kind) <= hearsByAs(now.kindOf(other));
            if (other != crew && isHeard) {
                hearers++;
            }
        }
        return hearers;
    }

    /** The longest time from any crew to each cell, into 'otherTimes'. */
    private void fillLongestTimes() {
        Arrays.fill(otherTimes, 0);
        for (int crew = 0; crew < now.crews; crew++) {
            now.rock.timesFrom(now.placeOf(crew), times);
            for (int c = 0; c < CELLS; c++) {
                int time = at(times, c);
                int longest = at(otherTimes, c);
                boolean isComeTo = time != NOTHING && longest != NOTHING;
                exchange(otherTimes, c, isComeTo ? Math.max(time, longest) : NOTHING);
            }
        }
    }

    /** Begins to try maps in the draft: how many there are. */
    private int beginMaps() {
        draft.become(now);
        return now.mapCount();
    }

    /** Lays a map in the draft, behind beginMaps: does it fit? */
    private boolean draftFitsAs(int map) {
        draft.layMap(map);
        return draft.firstWrong() == NOTHING;
    }

    private int leastFit() {
        int maps = beginMaps();
        for (int m = 0; m < maps; m++) {
            if (draftFitsAs(m)) {
                return m;
            }
        }
        return NOTHING;
    }

    private int greatestFit() {
        int maps = beginMaps();
        for (int m = maps - 1; m >= 0; m--) {
            if (draftFitsAs(m)) {
                return m;
            }
        }
        return NOTHING;
    }

    private int nearestFit() {
        int best = NOTHING;
        int fewest = MOST_UNSURE + 1;
        int maps = beginMaps();
        for (int m = 0; m < maps; m++) {
            if (draftFitsAs(m)) {
                int changes = draft.unlikeCells(now);
                if (changes < fewest) {
                    best = m;
                    fewest = changes;
                }
            }
        }
        return best;
    }

    /** Marks for each crew the time from it that 'times' tells. */
    private void markTimesOfCrews() {
        for (int crew = 0; crew < now.crews; crew++) {
            // None is -1, and takes the lowest bit.
            int mark = at(times, now.placeOf(crew)) + 1;
            int word = crew * WORDS + mark / 64;
            putBits(seen, word, bitsAt(seen, word) | 1L << (mark % 64));
        }
    }

    /** The first crew of which most times are marked; none, if nothing is. */
    private int crewOfMostTimes() {
        int best = NOTHING;
        int most = 0;
        for (int crew = 0; crew < now.crews; crew++) {
            int marks = 0;
            for (int word = crew * WORDS; word < (crew + 1) * WORDS; word++) {
                marks += Long.bitCount(bitsAt(seen, word));
            }
            if (marks > most) {
                best = crew;
                most = marks;
            }
        }
        return best;
    }

    // ---- numbers, rows, sets

    private static boolean lies(int v, int least, int greatest) {
        return v >= least && v <= greatest;
    }

    private static boolean isCell(int v) {
        return lies(v, 0, CELLS - 1);
    }

    private static boolean isStuff(int v) {
        return lies(v, 0, STUFFS - 1);
    }

    private static boolean isKind(int v) {
        return lies(v, 0, KINDS - 1);
    }

    private static boolean isSpot(int v) {
        return lies(v, 0, SPOTS - 1);
    }

    private static boolean isSheet(int v) {
        return lies(v, 0, SHEETS - 1);
    }

    /** An element of a row; 0 where there is none, so that no index can fail. */
    private static int at(int[] row, int i) {
        return i >= 0 && i < row.length ? row[i] : 0;
    }

    /** An element becomes v: what it was. */
    private static int exchange(int[] row, int i, int v) {
        if (i < 0 || i >= row.length) {
            return 0;
        }
        int was = row[i];
        row[i] = v;
        return was;
    }

    /** As 'at', of a row of sets. */
    private static long bitsAt(long[] row, int i) {
        return i >= 0 && i < row.length ? row[i] : 0;
    }

    private static void putBits(long[] row, int i, long set) {
        if (i >= 0 && i < row.length) {
            row[i] = set;
        }
    }

    /** n numbers of a row come to elsewhere in it; arraycopy takes them as they all were. */
    private static void moveNumbers(int[] row, int from, int to, int n) {
        if (n >= 0 && lies(from, 0, row.length - n) && lies(to, 0, row.length - n)) {
            System.arraycopy(row, from, row, to, n);
        }
    }

    /** All of a row comes into another one of its length. */
    private static void copyRow(int[] source, int[] target) {
        System.arraycopy(source, 0, target, 0, Math.min(source.length, target.length));
    }

    private static int lowestBits(int v, int bits) {
        switch (bits) {
            case 8: return (byte) v;
            case 16: return (short) v;
            default: return v;
        }
    }

    private static long setOf(int cell) {
        return 1L << cell;
    }

    private static boolean has(long set, int cell) {
        return (set >>> cell & 1) != 0;
    }

    /** The cells beside any of a set. */
    private static long besides(long set) {
        long below = set << WIDTH & ALL_CELLS;
        long above = set >>> WIDTH;
        long right = (set & ~LAST_COLUMN) << 1;
        long left = (set & ~FIRST_COLUMN) >>> 1;
        return below | above | right | left;
    }

    /** A set, and what is come to from it by cells of another one. */
    private static long flood(long set, long through) {
        long grown = set;
        for (int i = 0; i < CELLS; i++) {
            long wider = grown | besides(grown) & through;
            if (wider == grown) {
                return grown;
            }
            grown = wider;
        }
        return grown;
    }

    /** The least number of cells that are no holes, on a way by open cells; none, if no way leads. */
    private static int costOfWay(long open, long holes, int from, int to) {
        long start = setOf(from) & open;
        long openHoles = open & holes;
        long known = flood(start & openHoles, openHoles);
        for (int cost = 0; cost <= CELLS; cost++) {
            if (has(known, to)) {
                return cost;
            }
            // A start that is no hole is the first cell that is paid for.
            long paid = (besides(known) | start) & open;
            known = flood(known | paid, openHoles);
        }
        return NOTHING;
    }

    // ---- kinds of crews

    /** Is a kind another one, or under it? */
    private static boolean isOfKind(int kind, int above) {
        int k = kind;
        for (int i = 0; i < KINDS && k != NOTHING; i++) {
            if (k == above) {
                return true;
            }
            k = at(KIND_ABOVE, k);
        }
        return false;
    }

    private static int carriesAs(int kind, int force) {
        int crew = 4 * force;
        int hammer = 2 * crew;
        int drill = hammer + 5;
        switch (kind) {
            case HAMMER: return hammer;
            case DRILL: return drill;
            case BELL: return drill + force;
            case SOFT: return crew / 2;
            case MUTE: return 0;
            default: return crew;
        }
    }

    private static int startsAs(int kind) {
        switch (kind) {
            case DRILL: return 1;
            case BELL: return 2;
            case SOFT: return 2;
            case MUTE: return 2;
            default: return 0;
        }
    }

    private static int hearsByAs(int kind) {
        switch (kind) {
            case BELL: return 40;
            case SOFT: return 30;
            case MUTE: return 30;
            case DEAF: return NOTHING;
            default: return 60;
        }
    }

    /** The cells of each stuff, as sets, and how sound goes through them. */
    private static final class Rock {

        // A slot for each time to come; sound is never under way for longer than SLOWEST.
        private static final int SLOTS = 8;

        private final long[] sets = new long[STUFFS];
        private final long[] coming = new long[SLOTS];
        private long reached;
        private int latest;

        Rock() {
            putBits(sets, 0, ALL_CELLS);
        }

        void becomeRock(Rock other) {
            System.arraycopy(other.sets, 0, sets, 0, Math.min(other.sets.length, sets.length));
        }

        long cellsOf(int stuff) {
            return bitsAt(sets, stuff);
        }

        int stuffAt(int cell) {
            for (int stuff = 0; stuff < STUFFS; stuff++) {
                if (has(bitsAt(sets, stuff), cell)) {
                    return stuff;
                }
            }
            return 0;
        }

        int paceOf(int cell) {
            return at(PACES, stuffAt(cell));
        }

        void put(int cell, int stuff) {
            if (!isCell(cell) || !isStuff(stuff)) {
                return;
            }
            for (int other = 0; other < STUFFS; other++) {
                putBits(sets, other, bitsAt(sets, other) & ~setOf(cell));
            }
            putBits(sets, stuff, bitsAt(sets, stuff) | setOf(cell));
        }

        long dryCells() {
            long water = cellsOf(WATER);
            return ALL_CELLS & ~(water | besides(water));
        }

        int timeBetween(int from, int to) {
            knock(from);
            for (int time = 0; time <= LONGEST && time <= latest; time++) {
                if (has(cellsComeIntoAt(time), to)) {
                    return time;
                }
            }
            return NOTHING;
        }

        /** The cells to which the time from a cell is no more than a limit. */
        long cellsWithin(int from, int limit) {
            knock(from);
            for (int time = 0; time <= LONGEST && time <= latest && time <= limit; time++) {
                cellsComeIntoAt(time);
            }
            return reached;
        }

        /** The times from a cell to all. */
        void timesFrom(int from, int[] row) {
            Arrays.fill(row, NOTHING);
            knock(from);
            for (int time = 0; time <= LONGEST && time <= latest; time++) {
                long here = cellsComeIntoAt(time);
                for (int c = 0; c < CELLS && here >>> c != 0; c++) {
                    if (has(here, c)) {
                        exchange(row, c, time);
                    }
                }
            }
        }

        /**
         * The times from all to a cell. A way back goes through the same cells, but for that it
         * comes into where it ends, not where it begins: only the paces of the two are exchanged.
         */
        void timesTo(int to, int[] row) {
            timesFrom(to, row);
            int pace = paceOf(to);
            for (int c = 0; c < CELLS; c++) {
                if (at(row, c) != NOTHING) {
                    exchange(row, c, at(row, c) + pace - paceOf(c));
                }
            }
        }

        /** Sound begins in a cell, if it is no hole. */
        private void knock(int from) {
            Arrays.fill(coming, 0);
            putBits(coming, 0, setOf(from) & ~bitsAt(sets, HOLE));
            reached = 0;
            latest = 0;
        }

        /** Sound goes on by one time: the cells that it comes into first at this time. */
        private long cellsComeIntoAt(int time) {
            int slot = time & (SLOTS - 1);
            long here = bitsAt(coming, slot) & ~reached;
            putBits(coming, slot, 0);
            if (here == 0) {
                return 0;
            }
            reached |= here;
            long next = besides(here) & ~reached;
            if (next != 0) {
                latest = time + SLOWEST;
            }
            for (int stuff = 0; stuff < STUFFS; stuff++) {
                if (stuff != HOLE) {
                    int later = time + at(PACES, stuff) & (SLOTS - 1);
                    putBits(coming, later, bitsAt(coming, later) | next & bitsAt(sets, stuff));
                }
            }
            return here;
        }
    }

    /** All that an image keeps. */
    private static final class Mine {

        private final Rock rock = new Rock();
        private final int[] kinds = new int[MOST_CREWS];
        private final int[] places = new int[MOST_CREWS];
        private final int[] forces = new int[MOST_CREWS];
        private int crews;
        private final int[] unsureCells = new int[MOST_UNSURE];
        private int unsures;
        private final int[] bookFroms = new int[MOST_BOOKS];
        private final int[] bookTos = new int[MOST_BOOKS];
        private final int[] bookTimes = new int[MOST_BOOKS];
        private int books;
        private final int[] spots = new int[SPOTS];
        private int year;
        private int z = 1;

        Mine() {
            Arrays.fill(spots, NOTHING);
        }

        void become(Mine other) {
            rock.becomeRock(other.rock);
            copyRow(other.kinds, kinds);
            copyRow(other.places, places);
            copyRow(other.forces, forces);
            crews = other.crews;
            copyRow(other.unsureCells, unsureCells);
            unsures = other.unsures;
            copyRow(other.bookFroms, bookFroms);
            copyRow(other.bookTos, bookTos);
            copyRow(other.bookTimes, bookTimes);
            books = other.books;
            copyRow(other.spots, spots);
            year = other.year;
            z = other.z;
        }

        void addCrew(int kind, int cell, int force) {
            exchange(kinds, crews, kind);
            exchange(places, crews, cell);
            exchange(forces, crews, force);
            crews++;
        }

        void addBook(int from, int to, int time) {
            exchange(bookFroms, books, from);
            exchange(bookTos, books, to);
            exchange(bookTimes, books, time);
            books++;
        }

        void addUnsure(int cell) {
            exchange(unsureCells, unsures, cell);
            unsures++;
        }

        boolean isUnsure(int cell) {
            for (int i = 0; i < unsures; i++) {
                if (at(unsureCells, i) == cell) {
                    return true;
                }
            }
            return false;
        }

        int kindOf(int crew) {
            return at(kinds, crew);
        }

        int placeOf(int crew) {
            return at(places, crew);
        }

        int forceOf(int crew) {
            return at(forces, crew);
        }

        int carriesOf(int crew) {
            return carriesAs(kindOf(crew), forceOf(crew));
        }

        int holes() {
            return Long.bitCount(rock.cellsOf(HOLE));
        }

        int heldSpots() {
            int held = 0;
            for (int spot = 0; spot < SPOTS; spot++) {
                if (at(spots, spot) != NOTHING) {
                    held++;
                }
            }
            return held;
        }

        int heardAt(int crew, int cell) {
            return heardBy(crew, rock.timeBetween(placeOf(crew), cell));
        }

        /** When a crew is heard in each cell. */
        void fillHeard(int crew, int[] row) {
            rock.timesFrom(placeOf(crew), row);
            for (int c = 0; c < CELLS; c++) {
                exchange(row, c, heardBy(crew, at(row, c)));
            }
        }

        /** When a crew is heard where its sound has gone for a time. */
        private int heardBy(int crew, int time) {
            if (time == NOTHING || time > carriesOf(crew)) {
                return NOTHING;
            }
            return time + startsAs(kindOf(crew));
        }

        long reachOf(int crew) {
            return rock.cellsWithin(placeOf(crew), carriesOf(crew));
        }

        long silentCells() {
            long loud = rock.cellsOf(HOLE);
            for (int crew = 0; crew < crews; crew++) {
                loud |= reachOf(crew);
            }
            return ALL_CELLS & ~loud;
        }

        int mapCount() {
            int maps = 1;
            for (int i = 0; i < unsures; i++) {
                maps *= STUFFS;
            }
            return maps;
        }

        int mapNow() {
            int map = 0;
            for (int i = unsures - 1; i >= 0; i--) {
                map = map * STUFFS + rock.stuffAt(at(unsureCells, i));
            }
            return map;
        }

        void layMap(int map) {
            int rest = map;
            for (int i = 0; i < unsures; i++) {
                rock.put(at(unsureCells, i), rest % STUFFS);
                rest /= STUFFS;
            }
        }

        /** How many unsure cells are of another stuff than in another mine. */
        int unlikeCells(Mine other) {
            int unlike = 0;
            for (int i = 0; i < unsures; i++) {
                int cell = at(unsureCells, i);
                if (rock.stuffAt(cell) != other.rock.stuffAt(cell)) {
                    unlike++;
                }
            }
            return unlike;
        }

        /** The first in the books that the rock doesn't fit. */
        int firstWrong() {
            for (int i = 0; i < books; i++) {
                int time = rock.timeBetween(at(bookFroms, i), at(bookTos, i));
                int told = time == NOTHING ? UNHEARD : Math.min(time, UNHEARD);
                if (told != at(bookTimes, i)) {
                    return i;
                }
            }
            return NOTHING;
        }

        void goOneYear() {
            int cell = draw() % CELLS;
            rock.put(cell, draw() % STUFFS);
            year++;
        }

        private int draw() {
            z = z * 1103515245 + 12345;
            return z >>> 8;
        }
    }

    /** The bytes of a text, and the reader that goes over them token by token. */
    private static final class Tape {

        private static final int MOST_BYTES = 120;

        // What a token is.
        private static final int END = 0;
        private static final int WORD = 1;
        private static final int NUMBER = 2;
        private static final int SIGN = 3;
        private static final int NO_TOKEN = 4;

        // A number above this is none that any place takes, however many digits follow.
        private static final int MOST_NUMBER = 999;

        private final int[] bytes = new int[MOST_BYTES];
        private int size;
        private int token;
        private int tokenStart;
        private int tokenEnd;
        private int number;

        void add(int b) {
            exchange(bytes, size, b);
            size++;
        }

        /** Does all that a text tells: how many items, or -1 less the place of the fault. */
        int readInto(Mine mine) {
            tokenEnd = 0;
            nextToken();
            for (int items = 1; items <= MOST_BYTES; items++) {
                if (!readItem(mine)) {
                    return -1 - tokenStart;
                }
                if (token == END) {
                    return items;
                }
                if (token != SIGN) {
                    return -1 - tokenStart;
                }
                nextToken();
            }
            return -1 - tokenStart;
        }

        /** Reads an item; if false, the token that can't stand there is the one it stays at. */
        private boolean readItem(Mine mine) {
            int kind = kindTold();
            if (kind != NOTHING) {
                return readCrew(mine, kind);
            }
            int stuff = stuffTold();
            if (stuff != NOTHING) {
                return readStuff(mine, stuff);
            }
            if (isWord("heard")) {
                return readHeard(mine);
            }
            return isWord("unsure") && readUnsure(mine);
        }

        private boolean readCrew(Mine mine, int kind) {
            if (mine.crews >= MOST_CREWS) {
                return false;
            }
            nextToken();
            int cell = 0;
            if (isWord("at")) {
                nextToken();
                if (!isNumber(0, CELLS - 1)) {
                    return false;
                }
                cell = number;
                nextToken();
            }
            int force = FIRST_FORCE;
            if (isWord("force")) {
                nextToken();
                if (!isNumber(1, MOST_FORCE)) {
                    return false;
                }
                force = number;
                nextToken();
            }
            mine.addCrew(kind, cell, force);
            return true;
        }

        private boolean readStuff(Mine mine, int stuff) {
            nextToken();
            if (!isNumber(0, CELLS - 1)) {
                return false;
            }
            int first = number;
            nextToken();
            int end = first;
            if (isWord("to")) {
                nextToken();
                if (!isNumber(first, CELLS - 1)) {
                    return false;
                }
                end = number;
                nextToken();
            }
            for (int c = first; c <= end && c < CELLS; c++) {
                mine.rock.put(c, stuff);
            }
            return true;
        }

        private boolean readHeard(Mine mine) {
            if (mine.books >= MOST_BOOKS) {
                return false;
            }
            nextToken();
            if (!isNumber(0, CELLS - 1)) {
                return false;
            }
            int from = number;
            nextToken();
            if (!isNumber(0, CELLS - 1)) {
                return false;
            }
            int to = number;
            nextToken();
            if (!isNumber(0, UNHEARD)) {
                return false;
            }
            mine.addBook(from, to, number);
            nextToken();
            return true;
        }

        private boolean readUnsure(Mine mine) {
            if (mine.unsures >= MOST_UNSURE) {
                return false;
            }
            nextToken();
            if (!isNumber(0, CELLS - 1) || mine.isUnsure(number)) {
                return false;
            }
            mine.addUnsure(number);
            nextToken();
            return true;
        }

        private int kindTold() {
            if (isWord("crew")) {
                return CREW;
            }
            if (isWord("hammer")) {
                return HAMMER;
            }
            if (isWord("drill")) {
                return DRILL;
            }
            if (isWord("bell")) {
                return BELL;
            }
            if (isWord("soft")) {
                return SOFT;
            }
            if (isWord("mute")) {
                return MUTE;
            }
            return isWord("deaf") ? DEAF : NOTHING;
        }

        private int stuffTold() {
            if (isWord("rock")) {
                return 0;
            }
            if (isWord("rubble")) {
                return 1;
            }
            if (isWord("hole")) {
                return HOLE;
            }
            if (isWord("water")) {
                return WATER;
            }
            return isWord("iron") ? 4 : NOTHING;
        }

        private boolean isNumber(int least, int greatest) {
            return token == NUMBER && lies(number, least, greatest);
        }

        private boolean isWord(String word) {
            if (token != WORD || tokenEnd - tokenStart != word.length()) {
                return false;
            }
            for (int i = 0; i < word.length(); i++) {
                if (at(bytes, tokenStart + i) != word.charAt(i)) {
                    return false;
                }
            }
            return true;
        }

        /** Goes on to the next token; the end stands where the bytes end. */
        private void nextToken() {
            tokenStart = tokenEnd;
            while (tokenStart < size && at(bytes, tokenStart) == ' ') {
                tokenStart++;
            }
            tokenEnd = tokenStart;
            int first = at(bytes, tokenStart);
            if (tokenStart >= size) {
                token = END;
            } else if (isLetter(first)) {
                token = WORD;
                endWord();
            } else if (isDigit(first)) {
                token = NUMBER;
                endNumber();
            } else {
                token = first == ';' ? SIGN : NO_TOKEN;
                tokenEnd = tokenStart + 1;
            }
        }

        private void endWord() {
            while (tokenEnd < size && isLetter(at(bytes, tokenEnd))) {
                tokenEnd++;
            }
        }

        private void endNumber() {
            number = 0;
            while (tokenEnd < size && isDigit(at(bytes, tokenEnd))) {
                int digit = at(bytes, tokenEnd) - '0';
                number = Math.min(number * 10 + digit, MOST_NUMBER + 1);
                tokenEnd++;
            }
        }

        private static boolean isLetter(int b) {
            return b >= 'a' && b <= 'z';
        }

        private static boolean isDigit(int b) {
            return b >= '0' && b <= '9';
        }
    }
}
