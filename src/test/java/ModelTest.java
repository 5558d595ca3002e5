import java.lang.reflect.InvocationTargetException;
import java.lang.reflect.Method;
import java.util.ArrayList;
import java.util.Arrays;
import java.util.List;
import java.util.Random;

/** Long runs of calls, drawn by fixed seeds, of which each answer is compared with PlainModel's. */
public final class ModelTest {

    /** A call's name, how often it is drawn, and from what to what each argument lies. */
    private static final String[] CALLS = {
        "stuff 12 0,35 0,4", "crew 5 0,6 0,35", "of 6 0,5 0,5", "change 10 0,5 0,2 0,20",
        "cells 3 0,4", "unsure 4 0,35", "sure 1",
        "time 5 0,35 0,35", "heard 6 0,5 0,35", "reach 5 0,5", "hears 5 0,5", "echo 6 0,5 0,35 0,35",
        "chord 6 0,5 0,35 0,6", "last 6 0,5 0,35", "many 4 0,35", "silent 4", "lag 5 0,5 0,5 0,35",
        "apart 5 0,5 0,5", "from 6 0,5 0,5 -12,12", "middle 4", "kindFor 5 0,5", "place 3 0,5",
        "book 4 0,35 0,35 0,24", "burn 1", "wrong 3", "fits 2", "map 3 0,2", "may 2 0,3",
        "lays 3 0,130", "asks 3 0,35", "dig 6 0,35 0,35", "safe 3 0,35 0,35", "ways 4 0,35",
        "years 2 1,60", "ahead 4 0,60 0,2", "when 4 0,5 0,35", "seed 2 -2147483648,2147483647",
        "feed 2 -2147483648,2147483647 1,4", "wipe 1", "text 1",
        "hold 4 0,9 -1,5", "as 8 0,9 0,6", "sheet 4 0,3 0,32 0,40", "write 10 0,3 0,39 -1,5",
        "copy 8 0,3 0,20 0,3 0,20 0,20", "load 2 0,3", "judge 5 0,3 0,5",
        "image 2", "undo 2", "tear 1", "count 8 0,7", "status 4 -1,6",
    };

    private static final int[] EXTREMES = {
        Integer.MIN_VALUE, Integer.MAX_VALUE, -1, -2, 36, 7, 5, 6, 100, 61, 41, 1000, -61, 61,
        Integer.MIN_VALUE + 1, Integer.MAX_VALUE - 1, 0x10000, 624, 625,
    };

    private static final String[] PIECES = {
        "crew", "hammer", "drill", "bell", "soft", "mute", "deaf", "rock", "rubble", "hole", "water",
        "iron", "heard", "unsure", "at", "force", "to", ";", ";", "0", "1", "007", "20", "21", "35",
        "36", "99", "100", "999", "1000", "99999999999", "x", "R", "-", "\t", "\u00e9", "{", "`", "/", ":",
    };

    private final Random random;
    private final RingingRock x = new RingingRock();
    private final PlainModel model = new PlainModel();
    private final List<String> trail = new ArrayList<>();

    private ModelTest(long seed) {
        random = new Random(seed);
    }

    public static void main(String[] args) throws Exception {
        int runs = args.length > 0 ? Integer.parseInt(args[0]) : 200;
        for (int seed = 1; seed <= runs; seed++) {
            if (!new ModelTest(seed).run()) {
                System.exit(1);
            }
        }
    }

    private boolean run() throws Exception {
        boolean right = begin();
        while (right && trail.size() < 470) {
            right = random.nextInt(40) == 0 ? tellText(randomText()) : oneCall();
        }
        return right;
    }

    /** Most runs begin with a floor of all stuffs, some crews, and books that a map fits. */
    private boolean begin() throws Exception {
        boolean right = true;
        int holes = random.nextInt(12);
        for (int i = 0; i < 40 && right; i++) {
            int stuff = i < holes ? 2 : random.nextInt(4) == 0 ? 3 : new int[] {0, 1, 4}[random.nextInt(3)];
            right = call("stuff", random.nextInt(36), random.nextInt(3) == 0 ? 0 : stuff);
        }
        int crews = random.nextInt(7);
        for (int i = 0; i < crews && right; i++) {
            right = call("crew", random.nextInt(7), random.nextInt(36))
                    && call("change", i, 2, 1 + random.nextInt(20));
        }
        int unsures = random.nextInt(4);
        for (int i = 0; i < unsures && right; i++) {
            right = call("unsure", random.nextInt(36));
        }
        int books = random.nextInt(3);
        for (int i = 0; i < books && right; i++) {
            int from = random.nextInt(36);
            int to = random.nextInt(36);
            right = call("book", from, to, Math.min(99, PlainModel.timeIn(model.w.stuff, from, to)));
        }
        return right;
    }

    private boolean oneCall() throws Exception {
        int whole = 0;
        for (String c : CALLS) {
            whole += Integer.parseInt(c.split(" ")[1]);
        }
        int drawn = random.nextInt(whole);
        for (String c : CALLS) {
            String[] parts = c.split(" ");
            drawn -= Integer.parseInt(parts[1]);
            if (drawn < 0) {
                return call(parts[0], arguments(parts));
            }
        }
        throw new IllegalStateException();
    }

    private int[] arguments(String[] parts) {
        int[] arguments = new int[parts.length - 2];
        for (int i = 0; i < arguments.length; i++) {
            String[] ends = parts[i + 2].split(",");
            arguments[i] = argument(Integer.parseInt(ends[0]), Integer.parseInt(ends[1]));
        }
        if (parts[0].equals("sheet") && random.nextInt(10) > 0) {
            arguments[1] = new int[] {8, 8, 8, 16, 32, 0}[random.nextInt(6)];
        }
        if (parts[0].equals("write") && random.nextInt(4) == 0) {
            arguments[2] = random.nextInt();
        }
        return arguments;
    }

    private int argument(int least, int greatest) {
        int draw = random.nextInt(60);
        if (draw == 0) {
            return EXTREMES[random.nextInt(EXTREMES.length)];
        }
        if (draw == 1) {
            return least - 1;
        }
        if (draw == 2) {
            return greatest + 1;
        }
        return (int) (least + (long) (random.nextDouble() * ((long) greatest - least + 1)));
    }

    private String randomText() {
        StringBuilder text = new StringBuilder();
        int items = 1 + random.nextInt(6);
        for (int i = 0; i < items; i++) {
            text.append(i == 0 ? "" : random.nextInt(30) == 0 ? " " : ";").append(randomItem());
        }
        if (random.nextInt(3) == 0) {
            text.setLength(random.nextInt(text.length() + 1));
        }
        if (random.nextInt(3) == 0) {
            int place = random.nextInt(text.length() + 1);
            text.insert(place, PIECES[random.nextInt(PIECES.length)]);
        }
        return text.substring(0, Math.min(text.length(), 118));
    }

    private String randomItem() {
        String blank = random.nextInt(3) == 0 ? "" : " ";
        int first = random.nextInt(30);
        switch (random.nextInt(8)) {
            case 0: case 1: case 2:
                return PIECES[random.nextInt(7)]
                        + (random.nextBoolean() ? " at" + blank + random.nextInt(36) : "")
                        + (random.nextBoolean() ? blank + "force " + random.nextInt(21) : "");
            case 3: case 4: case 5:
                return PIECES[7 + random.nextInt(5)] + blank + first
                        + (random.nextBoolean() ? blank + "to" + blank + (first + random.nextInt(7) - 1) : "");
            case 6:
                return "heard" + blank + random.nextInt(36) + " " + random.nextInt(36) + " " + random.nextInt(101);
            default:
                return "unsure" + blank + random.nextInt(37);
        }
    }

    private boolean tellText(String text) throws Exception {
        boolean right = true;
        for (int i = 0; i < text.length() && right; ) {
            int n = Math.min(text.length() - i, 4);
            int bytes = 0;
            for (int k = 0; k < n; k++) {
                bytes = bytes << 8 | text.charAt(i + k);
            }
            right = call("feed", bytes, n);
            i += n;
        }
        return right && call("text");
    }

    private boolean call(String name, int... arguments) throws Exception {
        Class<?>[] types = new Class<?>[arguments.length];
        Arrays.fill(types, int.class);
        Object[] values = Arrays.stream(arguments).boxed().toArray();
        trail.add(name + Arrays.toString(arguments));
        Method real = RingingRock.class.getMethod(name, types);
        long got = ((Number) real.invoke(x, values)).longValue();
        long want = due(PlainModel.class.getDeclaredMethod(name, types), values);
        if (got == want) {
            return true;
        }
        System.out.println(String.join("\n", trail) + "\nanswered " + got + ", due is " + want);
        return false;
    }

    private long due(Method plain, Object[] values) throws Exception {
        try {
            return (Long) plain.invoke(model, values);
        } catch (InvocationTargetException e) {
            if (e.getCause() instanceof PlainModel.Found) {
                int which = ((PlainModel.Found) e.getCause()).which;
                model.found[which]++;
                return Due.LOW - which;
            }
            throw e;
        }
    }
}
