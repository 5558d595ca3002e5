import com.sun.management.ThreadMXBean;
import java.lang.management.ManagementFactory;
import java.lang.reflect.Method;
import java.lang.reflect.Modifier;
import java.util.Arrays;

/**
 * All calls of one run live in one room, of which nothing is given back. So what 512 of each call
 * make is measured, on a floor on which they have most to do; and no call throws, for any arguments.
 */
public final class RoomTest {

    private static final Due due = new Due();
    private static final ThreadMXBean MEMORY = (ThreadMXBean) ManagementFactory.getThreadMXBean();
    private static final int MOST_BYTES = 512 * 64;

    public static void main(String[] args) throws Exception {
        newObjects();
        for (Method method : RingingRock.class.getDeclaredMethods()) {
            if (Modifier.isPublic(method.getModifiers())) {
                room(method);
                wildArguments(method);
            }
        }
        due.end();
    }

    private static RingingRock wideFloor() {
        RingingRock x = new RingingRock();
        Due.tell(x, "bell force 20; bell at 5 force 20; bell at 30 force 20; crew at 35 force 20; drill at 14 force 20; soft at 21");
        Due.tell(x, "rubble 0 to 35; hole 7; hole 28; unsure 1; unsure 9; unsure 26; unsure 34");
        for (int i = 0; i < 8; i++) {
            x.book(0, 0, 0);
        }
        x.sheet(0, 8, 40);
        x.sheet(1, 8, 40);
        x.hold(0, 0);
        x.image();
        return x;
    }

    private static void newObjects() {
        new RingingRock();
        long before = MEMORY.getThreadAllocatedBytes(Thread.currentThread().getId());
        for (int i = 0; i < 100; i++) {
            new RingingRock().count(0);
        }
        long made = MEMORY.getThreadAllocatedBytes(Thread.currentThread().getId()) - before;
        due.holds("a new object is small: " + made / 100, made < 100 * 6000);
    }

    private static void room(Method method) throws Exception {
        RingingRock x = wideFloor();
        Object[] arguments = new Object[method.getParameterCount()];
        for (int i = 0; i < arguments.length; i++) {
            arguments[i] = method.getName().equals("feed") ? 1 : i == 1 && arguments.length > 1 ? 1 : 0;
        }
        // Reflection makes what it needs in the first calls.
        for (int i = 0; i < 40; i++) {
            method.invoke(x, arguments);
        }
        long made = cost(method, x, arguments);
        due.holds(method.getName() + " makes little: " + made, made < MOST_BYTES);
    }

    private static long cost(Method method, RingingRock x, Object... arguments) throws Exception {
        long before = MEMORY.getThreadAllocatedBytes(Thread.currentThread().getId());
        for (int i = 0; i < 256; i++) {
            method.invoke(x, arguments);
        }
        return 2 * (MEMORY.getThreadAllocatedBytes(Thread.currentThread().getId()) - before);
    }

    private static void wildArguments(Method method) throws Exception {
        int[] wild = {Integer.MIN_VALUE, -1000001, -61, -1, 0, 1, 2, 5, 9, 35, 36, 40, 99, 624, Integer.MAX_VALUE};
        int parameters = method.getParameterCount();
        RingingRock[] floors = {new RingingRock(), wideFloor()};
        Object[] arguments = new Object[parameters];
        int combinations = 1;
        for (int i = 0; i < parameters; i++) {
            combinations *= wild.length;
        }
        for (RingingRock x : floors) {
            for (int k = 0; k < combinations; k += parameters > 3 ? 97 : 1) {
                int rest = k;
                for (int i = 0; i < parameters; i++) {
                    arguments[i] = wild[rest % wild.length];
                    rest /= wild.length;
                }
                try {
                    method.invoke(x, arguments);
                } catch (java.lang.reflect.InvocationTargetException e) {
                    due.holds(method.getName() + Arrays.toString(arguments) + " threw " + e.getCause(), false);
                }
            }
        }
    }
}
