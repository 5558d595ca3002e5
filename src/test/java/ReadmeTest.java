import java.io.File;
import java.lang.reflect.Method;
import java.lang.reflect.Modifier;
import java.nio.file.Files;
import java.nio.file.Path;
import java.util.Arrays;
import java.util.regex.Matcher;
import java.util.regex.Pattern;

/** What README.md says is so: each call in its blocks tells what stands behind it. */
public final class ReadmeTest {

    private static final Due due = new Due();
    private static final String NEW = "RingingRock floor = new RingingRock();";
    private static final Pattern CALL = Pattern.compile("floor\\.(\\w+)\\((.*?)\\); +// (-?\\d+)(:.*)?");

    public static void main(String[] args) throws Exception {
        String readme = Files.readString(Path.of("README.md"));
        int calls = 0;
        Matcher blocks = Pattern.compile("(?s)```java\n(.*?)```").matcher(readme);
        while (blocks.find()) {
            calls += block(blocks.group(1).split("\n"));
        }
        due.holds("the blocks are found: " + calls, calls > 30);
        allCallsAreNamed(readme);
        allTestsAreNamed(readme);
        due.end();
    }

    private static int block(String[] lines) throws Exception {
        RingingRock floor = new RingingRock();
        due.holds("begins with " + lines[0], lines[0].equals(NEW));
        for (int i = 1; i < lines.length; i++) {
            Matcher m = CALL.matcher(lines[i]);
            boolean reads = m.matches();
            due.holds("a call and its answer: " + lines[i], reads);
            if (reads) {
                due.is("README: " + lines[i], answer(floor, m.group(1), m.group(2)), Long.parseLong(m.group(3)));
            }
        }
        return lines.length - 1;
    }

    private static long answer(RingingRock floor, String name, String told) throws Exception {
        Object[] values = told.isEmpty() ? new Object[0] : Arrays.stream(told.split(", ")).map(Integer::decode).toArray();
        Class<?>[] types = new Class<?>[values.length];
        Arrays.fill(types, int.class);
        return ((Number) RingingRock.class.getMethod(name, types).invoke(floor, values)).longValue();
    }

    private static void allCallsAreNamed(String readme) {
        for (Method method : RingingRock.class.getDeclaredMethods()) {
            due.holds("README names " + method.getName(),
                    !Modifier.isPublic(method.getModifiers()) || readme.contains("`" + method.getName() + "`"));
        }
    }

    private static void allTestsAreNamed(String readme) {
        File[] files = new File("src/test/java").listFiles();
        for (File file : files == null ? new File[0] : files) {
            String name = file.getName().replace(".java", "");
            due.holds("README names " + name, readme.contains("`" + name + "`"));
        }
        Matcher named = Pattern.compile("`(\\w+Test)`").matcher(readme);
        while (named.find()) {
            due.holds(named.group(1) + " is there", new File("src/test/java/" + named.group(1) + ".java").isFile());
        }
    }
}
