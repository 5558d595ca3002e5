import java.lang.reflect.Constructor;
import java.lang.reflect.Field;
import java.lang.reflect.Method;
import java.lang.reflect.Modifier;
import java.nio.file.Files;
import java.nio.file.Path;
import java.util.Arrays;
import java.util.List;
import java.util.Map;
import java.util.TreeMap;
import java.util.TreeSet;
import java.util.regex.Matcher;
import java.util.regex.Pattern;
import java.util.stream.Collectors;

/** The public face is the document's, and the program keeps to what of LANGUAGE.md can be seen by a scan. */
public final class FaceTest {

    private static final Due due = new Due();
    private static final Path PROGRAM = Path.of("src/main/java/RingingRock.java");
    private static final Path DOCUMENT = Path.of("../shared/DOC.md");

    public static void main(String[] args) throws Exception {
        face();
        nothingElseIsOpen();
        noNameTwice();
        bannedWords();
        shortMethods();
        indexesAreTested();
        divisorsAreConstants();
        callsAreNotDeep();
        due.end();
    }

    private static void face() throws Exception {
        TreeSet<String> told = new TreeSet<>();
        Matcher m = Pattern.compile("(?m)^    public (int|long) (\\w+)\\((.*)\\);$")
                .matcher(Files.readString(DOCUMENT));
        while (m.find()) {
            int parameters = m.group(3).isEmpty() ? 0 : m.group(3).split(",").length;
            told.add(m.group(1) + " " + m.group(2) + " " + parameters);
        }
        due.is("calls of the document", told.size(), 52);
        TreeSet<String> built = new TreeSet<>();
        for (Method method : RingingRock.class.getDeclaredMethods()) {
            if (Modifier.isPublic(method.getModifiers())) {
                due.holds("ints alone", Arrays.stream(method.getParameterTypes()).allMatch(t -> t == int.class));
                built.add(method.getReturnType() + " " + method.getName() + " " + method.getParameterCount());
            }
        }
        due.holds("the face: " + told + " / " + built, told.equals(built));
        due.holds("final", Modifier.isFinal(RingingRock.class.getModifiers()));
    }

    private static void nothingElseIsOpen() {
        for (Method method : RingingRock.class.getDeclaredMethods()) {
            int kind = method.getModifiers();
            due.holds(method + " is public or private", Modifier.isPublic(kind) || Modifier.isPrivate(kind));
        }
        for (Field field : RingingRock.class.getDeclaredFields()) {
            due.holds(field + " is private", Modifier.isPrivate(field.getModifiers()));
        }
        due.is("constructors", RingingRock.class.getDeclaredConstructors().length, 1);
        for (Constructor<?> constructor : RingingRock.class.getDeclaredConstructors()) {
            due.is("its parameters", constructor.getParameterCount(), 0);
        }
        for (Class<?> inside : RingingRock.class.getDeclaredClasses()) {
            due.holds(inside + " is static and not open",
                    Modifier.isStatic(inside.getModifiers()) && !Modifier.isPublic(inside.getModifiers()));
        }
    }

    private static void noNameTwice() {
        List<String> open = Arrays.stream(RingingRock.class.getDeclaredMethods())
                .filter(m -> Modifier.isPublic(m.getModifiers())).map(Method::getName).collect(Collectors.toList());
        for (Method method : RingingRock.class.getDeclaredMethods()) {
            due.holds(method + " has a name of its own",
                    Modifier.isPublic(method.getModifiers()) || !open.contains(method.getName()));
        }
        for (Class<?> inside : RingingRock.class.getDeclaredClasses()) {
            for (Method method : inside.getDeclaredMethods()) {
                due.holds(method + " has a name of its own", !open.contains(method.getName()));
            }
            due.holds(inside + " has few fields", Arrays.stream(inside.getDeclaredFields())
                    .filter(f -> !Modifier.isStatic(f.getModifiers())).count() <= 20);
        }
    }

    /** The program without comments and texts. */
    private static String code() throws Exception {
        String text = Files.readString(PROGRAM);
        return text.replaceAll("(?s)/\\*.*?\\*/", "").replaceAll("//[^\n]*", "")
                .replaceAll("\"[^\"\n]*\"", "\"\"").replaceAll("'[^'\n]'", "' '");
    }

    private static void bannedWords() throws Exception {
        String code = code();
        String[] banned = {"throw", "throws", "try", "catch", "synchronized", "assert", "instanceof", "package",
            "protected", "Object", "Exception", "Error", "System\\.(?!arraycopy)\\w+", "Integer", "Thread", "Random",
            "equals", "hashCode", "toString", "volatile", "native", "transient", "var", "yield", "StringBuilder",
            "Math\\.(?!max|min|abs)\\w+", "Long\\.(?!bitCount)\\w+", "Arrays\\.(?!fill)\\w+", "while\\s*\\(true"};
        for (String word : banned) {
            due.holds("no " + word, !Pattern.compile("\\b" + word + "\\b").matcher(code).find());
        }
        due.holds("no lambda, no method reference", !code.contains("->") && !code.contains("::"));
        due.holds("no joining of texts", !Pattern.compile("\"\"\\s*\\+|\\+\\s*\"\"").matcher(code).find());
        due.holds("one import", Pattern.compile("\\bimport\\b").matcher(code).results().count() == 1
                && code.contains("import java.util.Arrays;"));
        due.holds("plain signs", Files.readString(PROGRAM).chars().allMatch(c -> c == '\n' || c >= 32 && c < 127));
        Matcher fields = Pattern.compile("(?m)^ *(?:private )?static (?!final)[\\w\\[\\]]+ \\w+( =|;)").matcher(code);
        due.holds("static fields are final", !fields.find());
    }

    /** Each method's name, and its body without comments and texts; none is there twice but for constructors. */
    private static Map<String, String> bodies() throws Exception {
        Map<String, String> bodies = new TreeMap<>();
        for (int indent = 4; indent <= 8; indent += 4) {
            String ahead = " ".repeat(indent);
            Matcher m = Pattern.compile("(?ms)^" + ahead + "(?:public |private )?(?:static )?"
                    + "(?:int|long|boolean|void) (\\w+)\\([^)]*\\) \\{\n(.*?)^" + ahead + "\\}").matcher(code());
            while (m.find()) {
                due.holds("one " + m.group(1), bodies.put(m.group(1), m.group(2)) == null);
            }
        }
        due.holds("all methods are seen: " + bodies.size(), bodies.size() > 130);
        return bodies;
    }

    /** An index stands only where it is tested right there: in the four that read and write a row's element. */
    private static void indexesAreTested() throws Exception {
        for (Map.Entry<String, String> body : bodies().entrySet()) {
            String name = body.getKey();
            boolean tests = Pattern.compile("i >= 0 && i < row\\.length|i < 0 \\|\\| i >= row\\.length")
                    .matcher(body.getValue()).find();
            boolean indexes = Pattern.compile("(?<!new int|new long)\\[[^\\]]").matcher(body.getValue()).find();
            due.holds(name + " tests its index", !indexes || tests);
        }
    }

    private static void divisorsAreConstants() throws Exception {
        Matcher m = Pattern.compile("[/%]=? *(\\S+)").matcher(code());
        while (m.find()) {
            due.holds("divided by " + m.group(1), m.group(1).matches("(64|2|STUFFS|CELLS)[;)]*"));
        }
    }

    private static void callsAreNotDeep() throws Exception {
        Map<String, String> bodies = bodies();
        for (String name : bodies.keySet()) {
            due.holds(name + " opens at most eight calls, itself too", depth(bodies, name, 0) <= 8);
        }
    }

    /** How many calls stand open at most behind one; a call that comes back to itself gets ever deeper. */
    private static int depth(Map<String, String> bodies, String name, int open) {
        int most = 0;
        Matcher m = Pattern.compile("\\b(\\w+)\\(").matcher(bodies.get(name));
        while (open < 20 && m.find()) {
            if (bodies.containsKey(m.group(1))) {
                most = Math.max(most, depth(bodies, m.group(1), open + 1));
            }
        }
        return most + 1;
    }

    private static void shortMethods() throws Exception {
        String[] lines = Files.readString(PROGRAM).split("\n");
        due.holds("few classes", RingingRock.class.getDeclaredClasses().length < 12);
        for (Method method : RingingRock.class.getDeclaredMethods()) {
            due.holds(method + " has few parameters", method.getParameterCount() <= 7);
        }
        for (int indent = 4; indent <= 8; indent += 4) {
            String head = " ".repeat(indent) + "(public |private )?(static )?\\w+(\\[\\])? \\w+\\(.*\\{";
            int begin = -1;
            for (int i = 0; i < lines.length; i++) {
                if (lines[i].matches(head)) {
                    begin = i;
                } else if (begin >= 0 && lines[i].equals(" ".repeat(indent) + "}")) {
                    due.holds("short: " + lines[begin].strip(), i - begin < 60);
                    begin = -1;
                }
            }
        }
    }
}
