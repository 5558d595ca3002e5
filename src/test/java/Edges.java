import java.util.Arrays;
import java.util.List;
import java.util.function.Supplier;

/** Tests of boundaries: what is taken, what is refused, and that a refused call changes nothing but status(). */
final class Edges {

    static final long ALL = (1L << 36) - 1;

    final Due due = new Due();

    // ---- calls by their names

    static long call(RingingRock x, String name, int... a) {
        Class<?>[] types = new Class<?>[a.length];
        Arrays.fill(types, int.class);
        try {
            Object answer = RingingRock.class.getMethod(name, types).invoke(x, Arrays.stream(a).boxed().toArray());
            return ((Number) answer).longValue();
        } catch (ReflectiveOperationException e) {
            throw new AssertionError(label(name, a), e);
        }
    }

    static String label(String name, int... a) {
        return name + Arrays.toString(a).replace('[', '(').replace(']', ')');
    }

    // ---- what is due

    /** A call on a floor made anew answers so; that is no finding. */
    void answers(Supplier<RingingRock> floor, long want, String name, int... a) {
        RingingRock x = floor.get();
        int[] before = statuses(x);
        due.is(label(name, a), call(x, name, a), want);
        due.holds(label(name, a) + " is no finding", Arrays.equals(statuses(x), before));
    }

    /** A call on a floor made anew answers a finding; status() counts it, and nothing else changes. */
    void refused(Supplier<RingingRock> floor, int finding, String name, int... a) {
        RingingRock x = floor.get();
        int[] before = statuses(x);
        due.is(label(name, a), call(x, name, a), finding);
        int[] after = statuses(x);
        for (int which = -1; which < 7; which++) {
            boolean counts = which == -1 || which == Due.LOW - finding;
            due.is(label(name, a) + ": status " + which, after[which + 1], before[which + 1] + (counts ? 1 : 0));
        }
        alike(label(name, a), x, floor.get());
    }

    /** A call that only tells: no finding, and nothing changes. */
    void onlyTells(Supplier<RingingRock> floor, String name, int... a) {
        RingingRock x = floor.get();
        int[] before = statuses(x);
        call(x, name, a);
        due.holds(label(name, a) + " is no finding", Arrays.equals(statuses(x), before));
        alike(label(name, a), x, floor.get());
    }

    /** The i-th argument of a call is taken from least to greatest; what lies beside is BEYOND. */
    void ends(Supplier<RingingRock> floor, int i, int least, int greatest, String name, int... a) {
        int[] outside = {least - 1, greatest + 1, Integer.MIN_VALUE, Integer.MAX_VALUE};
        for (int v : outside) {
            refused(floor, Due.BEYOND, name, with(a, i, v));
        }
        taken(floor, name, with(a, i, least));
        taken(floor, name, with(a, i, greatest));
    }

    private void taken(Supplier<RingingRock> floor, String name, int... a) {
        RingingRock x = floor.get();
        int before = x.status(-1);
        long answer = call(x, name, a);
        due.is(label(name, a) + ", answered by " + answer + ": findings", x.status(-1), before);
    }

    void alike(String label, RingingRock x, RingingRock twin) {
        List<String> is = Portrait.of(x);
        List<String> was = Portrait.of(twin);
        for (int i = 0; i < Math.max(is.size(), was.size()); i++) {
            String one = i < is.size() ? is.get(i) : "nothing";
            String other = i < was.size() ? was.get(i) : "nothing";
            if (!one.equals(other)) {
                due.holds(label + " changes nothing; now " + one + ", ahead of it " + other, false);
                return;
            }
        }
    }

    private static int[] statuses(RingingRock x) {
        int[] all = new int[8];
        for (int which = -1; which < 7; which++) {
            all[which + 1] = x.status(which);
        }
        return all;
    }

    private static int[] with(int[] a, int i, int v) {
        int[] changed = a.clone();
        changed[i] = v;
        return changed;
    }

    // ---- floors

    static int tell(RingingRock x, String text) {
        feed(x, text);
        return x.text();
    }

    static void feed(RingingRock x, String text) {
        for (int i = 0; i < text.length(); i += 4) {
            int end = Math.min(text.length(), i + 4);
            int bytes = 0;
            for (int k = i; k < end; k++) {
                bytes = bytes << 8 | text.charAt(k);
            }
            x.feed(bytes, end - i);
        }
    }

    static RingingRock told(String text) {
        RingingRock x = new RingingRock();
        tell(x, text);
        return x;
    }

    /** Something of all that an object can hold, and an image of what was otherwise. No hole, so that sound comes everywhere. */
    static RingingRock usual() {
        RingingRock x = told("soft at 3 force 9; iron 9; unsure 5; unsure 6; heard 0 1 2; heard 6 7 9; hole 20");
        x.hold(3, 0);
        x.years(3);
        x.image();
        tell(x, "rock 0 to 35; hammer force 20; drill at 35 force 20; bell at 14 force 20; rubble 7; water 21; iron 33");
        x.sure();
        x.unsure(33);
        x.unsure(8);
        x.burn();
        x.book(0, 14, x.time(0, 14));
        x.book(35, 3, x.time(35, 3));
        x.change(0, 0, 0);
        x.change(0, 2, 20);
        x.hold(9, 1);
        x.hold(0, 3);
        x.seed(-7654321);
        sheets(x);
        feed(x, "water 5; mute");
        x.stuff(36, 0);
        x.crew(0, -1);
        x.write(3, 0, 0);
        return x;
    }

    /** Of 8 bits with stuffs, of 16 bits with 40 numbers, of 32 bits with none, and a missing one. */
    private static void sheets(RingingRock x) {
        x.sheet(0, 8, 5);
        for (int i = 0; i < 5; i++) {
            x.write(0, i, 4 - i);
        }
        x.sheet(1, 16, 40);
        for (int i = 0; i < 5; i++) {
            x.write(1, i, i * i % 5);
        }
        for (int n = 5; n < 40; n *= 2) {
            x.copy(1, 0, 1, n, n);
        }
        x.sheet(2, 32, 0);
    }

    /** As many crews, unsure cells, bytes and books in it as there may be. */
    static RingingRock full() {
        RingingRock x = usual();
        x.crew(6, 1);
        x.crew(5, 34);
        x.unsure(0);
        x.unsure(35);
        for (int i = 2; i < 8; i++) {
            x.book(i, 30 - i, x.time(i, 30 - i));
        }
        for (int i = 0; i < 120 && x.count(5) < 120; i++) {
            x.feed(0x20202020, Math.min(4, 120 - x.count(5)));
        }
        return x;
    }

    static RingingRock empty() {
        return new RingingRock();
    }

    /** Years go to one; it ends also if none go. */
    static void goTo(RingingRock x, int year) {
        for (int i = 0; i < 20 && x.count(0) < year; i++) {
            x.years(Math.min(60, year - x.count(0)));
        }
    }

    /** All of a year. */
    static RingingRock inYear(int year) {
        RingingRock x = usual();
        goTo(x, year);
        return x;
    }
}
