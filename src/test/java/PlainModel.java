import java.util.ArrayList;
import java.util.List;
import java.util.TreeSet;
import java.util.regex.Matcher;
import java.util.regex.Pattern;

/** The document said once more, slowly and with the Java library: what RingingRock is compared with. */
final class PlainModel {

    static final int BEYOND = 0, FULL = 1, KIND = 2, NONE = 3, STATE = 4, MISSING = 5, SIZE = 6;
    static final int NEVER = 1_000_000;

    static final class Found extends RuntimeException {
        final int which;
        Found(int which) {
            super(null, null, false, false);
            this.which = which;
        }
    }

    static final class Crew {
        int kind, cell, force = 6;
        Crew(int kind, int cell) {
            this.kind = kind;
            this.cell = cell;
        }
        Crew twin() {
            Crew c = new Crew(kind, cell);
            c.force = force;
            return c;
        }
        int carries() {
            int[] all = {4 * force, 8 * force, 8 * force + 5, 9 * force + 5, 2 * force, 0, 4 * force};
            return all[kind];
        }
        int starts() {
            return new int[] {0, 0, 1, 2, 2, 2, 0}[kind];
        }
        int hearsBy() {
            return new int[] {60, 60, 60, 40, 30, 30, -1}[kind];
        }
    }

    static final class World {
        int[] stuff = new int[36];
        List<Crew> crews = new ArrayList<>();
        List<Integer> unsure = new ArrayList<>();
        List<int[]> books = new ArrayList<>();
        int[] spots = {-1, -1, -1, -1, -1, -1, -1, -1, -1, -1};
        int year = 0;
        int z = 1;

        World twin() {
            World w = new World();
            w.stuff = stuff.clone();
            for (Crew c : crews) {
                w.crews.add(c.twin());
            }
            w.unsure.addAll(unsure);
            for (int[] b : books) {
                w.books.add(b.clone());
            }
            w.spots = spots.clone();
            w.year = year;
            w.z = z;
            return w;
        }
    }

    World w = new World();
    World image = null;
    List<Integer> tape = new ArrayList<>();
    int[] bits = new int[4];
    int[][] numbers = new int[4][0];
    int[] found = new int[7];

    // ---- helpers

    static void must(boolean right, int which) {
        if (!right) {
            throw new Found(which);
        }
    }

    static boolean in(int v, int a, int b) {
        return a <= v && v <= b;
    }

    static void cell(int... cs) {
        for (int c : cs) {
            must(in(c, 0, 35), BEYOND);
        }
    }

    void isCrew(int... cs) {
        for (int c : cs) {
            must(in(c, 0, w.crews.size() - 1), BEYOND);
        }
    }

    static final int[][] NEAR = new int[36][];

    static {
        for (int c = 0; c < 36; c++) {
            int cell = c;
            NEAR[c] = java.util.stream.IntStream.range(0, 36)
                    .filter(d -> Math.abs(cell / 6 - d / 6) + Math.abs(cell % 6 - d % 6) == 1).toArray();
        }
    }

    static int[] near(int c) {
        return NEAR[c];
    }

    static final int[] PACE = {2, 6, NEVER, 3, 1};

    static int pace(int stuff) {
        return PACE[stuff];
    }

    static int[] spread(int[] stuff, int from) {
        int[] t = new int[36];
        java.util.Arrays.fill(t, NEVER);
        if (stuff[from] == 2) {
            return t;
        }
        t[from] = 0;
        boolean more = true;
        while (more) {
            more = false;
            for (int c = 0; c < 36; c++) {
                for (int d : near(c)) {
                    if (stuff[d] != 2 && t[c] + pace(stuff[d]) < t[d]) {
                        t[d] = t[c] + pace(stuff[d]);
                        more = true;
                    }
                }
            }
        }
        return t;
    }

    static int timeIn(int[] stuff, int from, int to) {
        return spread(stuff, from)[to];
    }

    static int heardIn(int[] stuff, Crew c, int cell) {
        int t = timeIn(stuff, c.cell, cell);
        return t > c.carries() ? NEVER : t + c.starts();
    }

    static long noisy(int[] stuff, Crew c) {
        long set = 0;
        int[] t = spread(stuff, c.cell);
        for (int i = 0; i < 36; i++) {
            if (t[i] <= c.carries()) {
                set |= 1L << i;
            }
        }
        return set;
    }

    static int less(int v) {
        must(v < NEVER, NONE);
        return v;
    }

    int echoIn(Crew k, int cell, int hole) {
        int least = NEVER;
        int[] there = spread(w.stuff, k.cell);
        for (int b : near(hole)) {
            least = Math.min(least, there[b] + timeIn(w.stuff, b, cell) + 1);
        }
        return least > k.carries() ? NEVER : least + k.starts();
    }

    static long silentIn(World v) {
        long set = 0;
        for (int c = 0; c < 36; c++) {
            boolean any = v.stuff[c] == 2;
            for (Crew k : v.crews) {
                any |= (noisy(v.stuff, k) >> c & 1) == 1;
            }
            if (!any) {
                set |= 1L << c;
            }
        }
        return set;
    }

    int[] laid(int map) {
        int[] s = w.stuff.clone();
        for (int u : w.unsure) {
            s[u] = map % 5;
            map /= 5;
        }
        return s;
    }

    int maps() {
        return (int) Math.round(Math.pow(5, w.unsure.size()));
    }

    int wrongIn(int[] stuff) {
        for (int i = 0; i < w.books.size(); i++) {
            int[] b = w.books.get(i);
            if (Math.min(99, timeIn(stuff, b[0], b[1])) != b[2]) {
                return i;
            }
        }
        return -1;
    }

    List<Integer> fitting() {
        List<Integer> all = new ArrayList<>();
        for (int m = 0; m < maps(); m++) {
            if (wrongIn(laid(m)) < 0) {
                all.add(m);
            }
        }
        return all;
    }

    static boolean[] dry(int[] stuff) {
        boolean[] d = new boolean[36];
        for (int c = 0; c < 36; c++) {
            d[c] = stuff[c] != 3;
            for (int b : near(c)) {
                d[c] &= stuff[b] != 3;
            }
        }
        return d;
    }

    int[] costs(boolean[] open, int from) {
        int[] cost = new int[36];
        java.util.Arrays.fill(cost, NEVER);
        if (open[from]) {
            cost[from] = w.stuff[from] == 2 ? 0 : 1;
        }
        for (int round = 0; round < 40; round++) {
            for (int c = 0; c < 36; c++) {
                for (int d : near(c)) {
                    if (open[d] && cost[c] < NEVER) {
                        cost[d] = Math.min(cost[d], cost[c] + (w.stuff[d] == 2 ? 0 : 1));
                    }
                }
            }
        }
        return cost;
    }

    static int draw(World v) {
        v.z = v.z * 1103515245 + 12345;
        return v.z >>> 8;
    }

    static void year(World v) {
        int c = draw(v) % 36;
        v.stuff[c] = draw(v) % 5;
        v.year++;
    }

    static int holes(World v) {
        int n = 0;
        for (int s : v.stuff) {
            n += s == 2 ? 1 : 0;
        }
        return n;
    }

    // ---- rock, crews

    long stuff(int c, int v) {
        cell(c);
        must(in(v, 0, 4), BEYOND);
        int was = w.stuff[c];
        w.stuff[c] = v;
        return was;
    }

    long crew(int kind, int c) {
        must(in(kind, 0, 6), BEYOND);
        cell(c);
        must(w.crews.size() < 6, FULL);
        w.crews.add(new Crew(kind, c));
        return w.crews.size() - 1;
    }

    long of(int crew, int what) {
        isCrew(crew);
        must(in(what, 0, 5), BEYOND);
        Crew k = w.crews.get(crew);
        return new int[] {k.kind, k.cell, k.force, k.carries(), k.starts(), k.hearsBy()}[what];
    }

    long change(int crew, int what, int v) {
        isCrew(crew);
        must(in(what, 0, 2), BEYOND);
        must(what == 0 ? in(v, 0, 6) : what == 1 ? in(v, 0, 35) : in(v, 1, 20), BEYOND);
        long was = of(crew, what);
        Crew k = w.crews.get(crew);
        if (what == 0) {
            k.kind = v;
        } else if (what == 1) {
            k.cell = v;
        } else {
            k.force = v;
        }
        return was;
    }

    long cells(int stuff) {
        must(in(stuff, 0, 4), BEYOND);
        long set = 0;
        for (int c = 0; c < 36; c++) {
            set |= w.stuff[c] == stuff ? 1L << c : 0;
        }
        return set;
    }

    long unsure(int c) {
        cell(c);
        must(!w.unsure.contains(c), STATE);
        must(w.unsure.size() < 4, FULL);
        w.unsure.add(c);
        return w.unsure.size();
    }

    long sure() {
        int n = w.unsure.size();
        w.unsure.clear();
        return n;
    }

    // ---- sound

    long time(int from, int to) {
        cell(from, to);
        return less(timeIn(w.stuff, from, to));
    }

    long heard(int crew, int c) {
        isCrew(crew);
        cell(c);
        return less(heardIn(w.stuff, w.crews.get(crew), c));
    }

    long reach(int crew) {
        isCrew(crew);
        return noisy(w.stuff, w.crews.get(crew));
    }

    long hears(int crew) {
        isCrew(crew);
        int set = 0;
        Crew me = w.crews.get(crew);
        for (Crew k : w.crews) {
            if (k != me && heardIn(w.stuff, k, me.cell) <= me.hearsBy()) {
                set |= 1 << w.crews.indexOf(k);
            }
        }
        return set;
    }

    long echo(int crew, int c, int hole) {
        isCrew(crew);
        cell(c, hole);
        must(w.stuff[hole] == 2, STATE);
        return less(echoIn(w.crews.get(crew), c, hole));
    }

    long chord(int crew, int c, int i) {
        isCrew(crew);
        cell(c);
        must(in(i, 0, 35), BEYOND);
        TreeSet<Integer> all = new TreeSet<>();
        for (int h = 0; h < 36; h++) {
            if (w.stuff[h] == 2) {
                int e = echoIn(w.crews.get(crew), c, h);
                if (e < NEVER) {
                    all.add(e);
                }
            }
        }
        must(i < all.size(), NONE);
        return new ArrayList<>(all).get(i);
    }

    long last(int crew, int c) {
        isCrew(crew);
        cell(c);
        Crew k = w.crews.get(crew);
        must(heardIn(w.stuff, k, c) < NEVER, NONE);
        must(c != k.cell, STATE);
        int[] t = spread(w.stuff, k.cell);
        for (int b : near(c)) {
            if (t[b] + pace(w.stuff[c]) == t[c]) {
                return b;
            }
        }
        throw new IllegalStateException("no way, and yet heard");
    }

    long many(int c) {
        cell(c);
        return w.crews.stream().filter(k -> heardIn(w.stuff, k, c) < NEVER).count();
    }

    long silent() {
        return silentIn(w);
    }

    void two(int one, int other) {
        isCrew(one, other);
        must(one != other, BEYOND);
    }

    long lag(int one, int other, int c) {
        two(one, other);
        cell(c);
        int a = less(heardIn(w.stuff, w.crews.get(one), c));
        int b = less(heardIn(w.stuff, w.crews.get(other), c));
        return b - a;
    }

    long apart(int one, int other) {
        two(one, other);
        int set = 0;
        for (int d = 0; d <= 30; d++) {
            boolean spoilt = false;
            for (int c = 0; c < 36; c++) {
                int a = heardIn(w.stuff, w.crews.get(one), c);
                int b = heardIn(w.stuff, w.crews.get(other), c);
                spoilt |= a < NEVER && b < NEVER && a == b + d;
            }
            set |= spoilt ? 0 : 1 << d;
        }
        return set;
    }

    // ---- who knocks back

    long from(int one, int other, int u) {
        two(one, other);
        must(in(u, -60, 60), BEYOND);
        long set = 0;
        for (int c = 0; c < 36; c++) {
            int a = timeIn(w.stuff, c, w.crews.get(one).cell);
            int b = timeIn(w.stuff, c, w.crews.get(other).cell);
            set |= a < NEVER && b < NEVER && b == a + u ? 1L << c : 0;
        }
        return set;
    }

    long middle() {
        must(!w.crews.isEmpty(), BEYOND);
        int best = -1;
        int least = NEVER;
        for (int c = 0; c < 36; c++) {
            int longest = 0;
            for (Crew k : w.crews) {
                longest = Math.max(longest, timeIn(w.stuff, k.cell, c));
            }
            if (longest < least) {
                best = c;
                least = longest;
            }
        }
        must(best >= 0, NONE);
        return best;
    }

    long kindFor(int crew) {
        isCrew(crew);
        int best = -1;
        int most = -1;
        for (int kind = 0; kind < 7; kind++) {
            Crew as = w.crews.get(crew).twin();
            as.kind = kind;
            int n = 0;
            for (int i = 0; i < w.crews.size(); i++) {
                Crew k = w.crews.get(i);
                n += i != crew && heardIn(w.stuff, as, k.cell) <= k.hearsBy() ? 1 : 0;
            }
            if (n > most) {
                best = kind;
                most = n;
            }
        }
        return best;
    }

    long place(int crew) {
        isCrew(crew);
        int best = -1;
        int most = -1;
        for (int c = 0; c < 36; c++) {
            Crew there = w.crews.get(crew).twin();
            there.cell = c;
            int n = Long.bitCount(noisy(w.stuff, there));
            if (n > most) {
                best = c;
                most = n;
            }
        }
        return best;
    }

    // ---- books, maps

    long book(int from, int to, int time) {
        cell(from, to);
        must(in(time, 0, 99), BEYOND);
        must(w.books.size() < 8, FULL);
        w.books.add(new int[] {from, to, time});
        return w.books.size();
    }

    long burn() {
        int n = w.books.size();
        w.books.clear();
        return n;
    }

    long wrong() {
        int i = wrongIn(w.stuff);
        must(i >= 0, NONE);
        return i;
    }

    long fits() {
        return fitting().size();
    }

    long map(int what) {
        must(in(what, 0, 2), BEYOND);
        List<Integer> all = fitting();
        must(!all.isEmpty(), NONE);
        if (what != 1) {
            return all.get(what == 0 ? 0 : all.size() - 1);
        }
        for (int changes = 0; changes <= 4; changes++) {
            for (int m : all) {
                int[] s = laid(m);
                int n = 0;
                for (int c = 0; c < 36; c++) {
                    n += s[c] != w.stuff[c] ? 1 : 0;
                }
                if (n == changes) {
                    return m;
                }
            }
        }
        throw new IllegalStateException();
    }

    long may(int i) {
        must(in(i, 0, w.unsure.size() - 1), BEYOND);
        int set = 0;
        for (int m : fitting()) {
            set |= 1 << laid(m)[w.unsure.get(i)];
        }
        return set;
    }

    long lays(int map) {
        must(in(map, 0, maps() - 1), BEYOND);
        must(!w.unsure.isEmpty(), STATE);
        int was = 0;
        int worth = 1;
        for (int u : w.unsure) {
            was += w.stuff[u] * worth;
            worth *= 5;
        }
        w.stuff = laid(map);
        return was;
    }

    long asks(int c) {
        cell(c);
        List<Integer> all = fitting();
        must(!w.crews.isEmpty() && !all.isEmpty(), NONE);
        int best = -1;
        int most = 0;
        for (int k = 0; k < w.crews.size(); k++) {
            TreeSet<Integer> unlike = new TreeSet<>();
            for (int m : all) {
                unlike.add(timeIn(laid(m), w.crews.get(k).cell, c));
            }
            if (unlike.size() > most) {
                best = k;
                most = unlike.size();
            }
        }
        return best;
    }

    // ---- digging

    long dig(int from, int to) {
        cell(from, to);
        return less(costs(dry(w.stuff), from)[to]);
    }

    long safe(int from, int to) {
        cell(from, to);
        List<Integer> all = fitting();
        must(!all.isEmpty(), NONE);
        boolean[] open = dry(w.stuff);
        for (int m : all) {
            boolean[] d = dry(laid(m));
            for (int c = 0; c < 36; c++) {
                open[c] &= d[c];
            }
        }
        return less(costs(open, from)[to]);
    }

    long ways(int from) {
        cell(from);
        int[] cost = costs(dry(w.stuff), from);
        long set = 0;
        for (int c = 0; c < 36; c++) {
            set |= cost[c] < NEVER ? 1L << c : 0;
        }
        return set;
    }

    // ---- years

    long years(int n) {
        must(in(n, 1, 60), BEYOND);
        must(w.year + n <= 999, STATE);
        for (int i = 0; i < n; i++) {
            year(w);
        }
        return holes(w);
    }

    long ahead(int n, int what) {
        must(in(n, 0, 60) && in(what, 0, 2), BEYOND);
        must(w.year + n <= 999, STATE);
        World v = w.twin();
        for (int i = 0; i < n; i++) {
            year(v);
        }
        if (what == 0) {
            return holes(v);
        }
        if (what == 1) {
            return Long.bitCount(silentIn(v));
        }
        int t = timeIn(v.stuff, 0, 35);
        return t < NEVER ? t : -1;
    }

    long when(int crew, int c) {
        isCrew(crew);
        cell(c);
        must(w.year <= 939, STATE);
        World v = w.twin();
        int first = heardIn(w.stuff, w.crews.get(crew), c);
        for (int n = 1; n <= 60; n++) {
            year(v);
            if (heardIn(v.stuff, v.crews.get(crew), c) != first) {
                return n;
            }
        }
        throw new Found(NONE);
    }

    long seed(int v) {
        int was = w.z;
        w.z = v;
        return was;
    }

    // ---- texts

    long feed(int bytes, int n) {
        must(in(n, 1, 4), BEYOND);
        must(tape.size() + n <= 120, FULL);
        for (int i = n; i-- > 0;) {
            tape.add((int) ((bytes & 0xffffffffL) >> (8 * i) & 255));
        }
        return tape.size();
    }

    long wipe() {
        int n = tape.size();
        tape.clear();
        return n;
    }

    static final class Fault extends RuntimeException {
        final int place;
        Fault(int place) {
            super(null, null, false, false);
            this.place = place;
        }
    }

    private List<String> tokens;
    private List<Integer> places;
    private int next;

    long text() {
        StringBuilder all = new StringBuilder();
        for (int b : tape) {
            all.append((char) b);
        }
        int size = tape.size();
        tape.clear();
        tokens = new ArrayList<>();
        places = new ArrayList<>();
        next = 0;
        Matcher m = Pattern.compile("[a-z]+|[0-9]+|;|[^ ]", Pattern.DOTALL).matcher(all);
        while (m.find()) {
            tokens.add(m.group());
            places.add(m.start());
        }
        tokens.add("");
        places.add(size);
        World before = w.twin();
        try {
            int items = 1;
            item();
            while (!peek().isEmpty()) {
                take(peek().equals(";"));
                item();
                items++;
            }
            return items;
        } catch (Fault f) {
            w = before;
            return -1 - f.place;
        }
    }

    private String peek() {
        return tokens.get(next);
    }

    private String take(boolean right) {
        if (!right) {
            throw new Fault(places.get(next));
        }
        return tokens.get(next++);
    }

    private int number(int a, int b) {
        String t = peek();
        boolean right = t.matches("[0-9]+")
                && new java.math.BigInteger(t).bitLength() < 30
                && in(Integer.parseInt(t), a, b);
        return Integer.parseInt(take(right));
    }

    private void item() {
        int kind = List.of("crew", "hammer", "drill", "bell", "soft", "mute", "deaf").indexOf(peek());
        int stuff = List.of("rock", "rubble", "hole", "water", "iron").indexOf(peek());
        if (kind >= 0) {
            take(w.crews.size() < 6);
            Crew k = new Crew(kind, 0);
            if (peek().equals("at")) {
                take(true);
                k.cell = number(0, 35);
            }
            if (peek().equals("force")) {
                take(true);
                k.force = number(1, 20);
            }
            w.crews.add(k);
        } else if (stuff >= 0) {
            take(true);
            int a = number(0, 35);
            int b = a;
            if (peek().equals("to")) {
                take(true);
                b = number(a, 35);
            }
            for (int c = a; c <= b; c++) {
                w.stuff[c] = stuff;
            }
        } else if (peek().equals("heard")) {
            take(w.books.size() < 8);
            w.books.add(new int[] {number(0, 35), number(0, 35), number(0, 99)});
        } else {
            take(peek().equals("unsure") && w.unsure.size() < 4);
            int place = next;
            int u = number(0, 35);
            if (w.unsure.contains(u)) {
                throw new Fault(places.get(place));
            }
            w.unsure.add(u);
        }
    }

    // ---- spots, sheets

    long hold(int spot, int crew) {
        must(in(spot, 0, 9), BEYOND);
        if (crew != -1) {
            isCrew(crew);
        }
        w.spots[spot] = crew;
        return 1;
    }

    long as(int spot, int kind) {
        must(in(spot, 0, 9) && in(kind, 0, 6), BEYOND);
        must(w.spots[spot] >= 0, MISSING);
        String[] lines = {"0", "01", "012", "0123", "04", "045", "06"};
        String line = lines[w.crews.get(w.spots[spot]).kind];
        must(line.indexOf('0' + kind) >= 0, KIND);
        return w.spots[spot];
    }

    void isSheet(int... ss) {
        for (int s : ss) {
            must(in(s, 0, 3), BEYOND);
        }
    }

    long sheet(int s, int b, int n) {
        isSheet(s);
        must(b == 0 || b == 8 || b == 16 || b == 32, BEYOND);
        must(n >= 0, SIZE);
        must(n <= 40, BEYOND);
        bits[s] = b;
        numbers[s] = new int[b == 0 ? 0 : n];
        return numbers[s].length;
    }

    long write(int s, int i, int v) {
        isSheet(s);
        must(bits[s] != 0, MISSING);
        must(in(i, 0, numbers[s].length - 1), BEYOND);
        int shift = 32 - bits[s];
        numbers[s][i] = v << shift >> shift;
        return 1;
    }

    long copy(int s, int from, int t, int to, int n) {
        isSheet(s, t);
        must(bits[s] != 0 && bits[t] != 0, MISSING);
        must(bits[s] == bits[t], KIND);
        must(from >= 0 && to >= 0 && n >= 0, BEYOND);
        must((long) from + n <= numbers[s].length && (long) to + n <= numbers[t].length, BEYOND);
        int[] were = numbers[s].clone();
        for (int i = 0; i < n; i++) {
            numbers[t][to + i] = were[from + i];
        }
        return n;
    }

    long load(int s) {
        isSheet(s);
        must(bits[s] != 0, MISSING);
        int came = 0;
        for (int v : numbers[s]) {
            if (!in(v, 0, 4) || came == 36) {
                break;
            }
            w.stuff[came++] = v;
        }
        return came;
    }

    long judge(int s, int crew) {
        isSheet(s);
        must(bits[s] != 0, MISSING);
        isCrew(crew);
        for (int c = 0; c < Math.min(36, numbers[s].length); c++) {
            int h = heardIn(w.stuff, w.crews.get(crew), c);
            if (numbers[s][c] != (h < NEVER ? h : -1)) {
                return 1 + c;
            }
        }
        return 0;
    }

    // ---- images

    long image() {
        image = w.twin();
        return 1;
    }

    long undo() {
        must(image != null, NONE);
        w = image.twin();
        return w.year;
    }

    long tear() {
        long was = image == null ? 0 : 1;
        image = null;
        return was;
    }

    long count(int what) {
        must(in(what, 0, 7), BEYOND);
        int held = 0;
        for (int s : w.spots) {
            held += s >= 0 ? 1 : 0;
        }
        return new int[] {w.year, w.crews.size(), holes(w), w.books.size(), w.unsure.size(),
            tape.size(), w.z, held}[what];
    }

    long status(int which) {
        must(in(which, -1, 6), BEYOND);
        int all = 0;
        for (int f : found) {
            all += f;
        }
        return which == -1 ? all : found[which];
    }
}
