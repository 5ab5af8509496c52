import java.io.IOException;
import java.lang.reflect.Array;
import java.lang.reflect.Field;
import java.lang.reflect.Method;
import java.lang.reflect.Modifier;
import java.nio.file.Files;
import java.nio.file.Path;
import java.util.List;
import java.util.Map;
import java.util.Set;
import java.util.TreeMap;
import java.util.TreeSet;
import java.util.regex.Matcher;
import java.util.regex.Pattern;

/** The face of the class, and the rules of LANGUAGE.md that can be read off the code. Runs in the project's root. */
public final class LanguageTest {
    private static final Path SOURCE = Path.of("src/main/java/BillHouse.java");
    private static final Set<String> FACE = Set.of(
            "int work(int,int)", "int user()", "boolean change(int,int,int)", "boolean use(int,int,int)",
            "boolean feed(int,int,int)", "boolean set(int,boolean)", "int mark(int,int)", "int needed()",
            "int idle()", "int total(int)", "int cost(int)", "long price(int,int)", "long bill(int,int,int)",
            "int coins(int,int)", "int leaving(int)", "int saved(int)", "int differ(int,int)", "int book(int)",
            "int booked(int)", "int line(int,int)", "int count(int)");
    private static final Pattern FORBIDDEN = Pattern.compile(
            "\\b(throw|throws|try|catch|synchronized|assert|\\w+Exact|System\\.(?!arraycopy)\\w+"
            + "|Random|Thread|float|double)\\b|static\\s*\\{|->|::|\"");
    private static final List<String> IMPORTS = List.of("import java.util.Arrays;");
    private static final Set<String> LIBRARY = Set.of(
            "Arrays.copyOf", "Arrays.copyOfRange", "Arrays.fill", "System.arraycopy", "Integer.bitCount",
            "Integer.compare", "Long.compare", "Math.abs", "Math.max", "Math.min", "Math.floorDiv", "Math.floorMod");
    private static final Pattern METHOD = Pattern.compile("^ +(?:public|private)(?: static)? [\\w\\[\\]]+ (\\w+)\\((.*)\\) \\{$");
    private static final Pattern CALL = Pattern.compile("(?<!\\bnew )\\b(\\w+)\\(");
    private static final Pattern LIBRARY_CALL = Pattern.compile("\\b([A-Z]\\w*\\.\\w+)\\(");
    private static final int MOST_DEEP = 8;

    private LanguageTest() {
    }

    public static void main(String[] args) throws IOException, IllegalAccessException {
        face();
        constants();
        classesInside();
        room();
        List<String> code = Files.readAllLines(SOURCE).stream().map(LanguageTest::withoutComment).toList();
        forbiddenWords(code);
        objectsInConstructorsAlone(code);
        libraryCalls(code);
        shortMethods(code);
        callsNotTooDeep(code);
        Due.end();
    }

    private static void face() {
        Due.is("class is public and final", Modifier.isPublic(BillHouse.class.getModifiers())
                && Modifier.isFinal(BillHouse.class.getModifiers()), true);
        Set<String> found = new TreeSet<>();
        Set<String> names = new TreeSet<>();
        for (Method method : BillHouse.class.getDeclaredMethods()) {
            if (!Modifier.isPrivate(method.getModifiers())) {
                found.add(method.toString().replace("public ", "").replace("BillHouse.", ""));
                names.add(method.getName());
            }
        }
        Due.is("face is " + found, found.equals(FACE), true);
        for (Method method : BillHouse.class.getDeclaredMethods()) {
            boolean isPrivate = Modifier.isPrivate(method.getModifiers());
            Due.is("name of " + method, isPrivate && names.contains(method.getName()), false);
        }
        for (Class<?> inside : BillHouse.class.getDeclaredClasses()) {
            for (Method method : inside.getDeclaredMethods()) {
                Due.is("name of " + method, names.contains(method.getName()), false);
            }
        }
        Due.is("constructors", BillHouse.class.getDeclaredConstructors().length, 1);
        Due.is("public constructors", BillHouse.class.getConstructors().length, 1);
    }

    private static void constants() {
        Due.is("NONE", BillHouse.NONE, -1);
        Due.is("UNTOLD", BillHouse.UNTOLD, -1000000000000L);
        for (Field field : BillHouse.class.getDeclaredFields()) {
            int modifiers = field.getModifiers();
            boolean isOfFace = field.getName().equals("NONE") || field.getName().equals("UNTOLD");
            Due.is(field + " is private", Modifier.isPrivate(modifiers), !isOfFace);
            Due.is(field + " is final", Modifier.isFinal(modifiers), true);
            Due.is(field + " is of an allowed type", isAllowed(field.getType()), true);
        }
    }

    private static void classesInside() {
        Class<?>[] inside = BillHouse.class.getDeclaredClasses();
        Due.is("at most eleven classes inside", inside.length <= 11, true);
        for (Class<?> one : inside) {
            int modifiers = one.getModifiers();
            Due.is(one + " is static", Modifier.isStatic(modifiers), true);
            Due.is(one + " is public or protected", Modifier.isPublic(modifiers) || Modifier.isProtected(modifiers), false);
            Due.is(one + " has few fields", one.getDeclaredFields().length <= 20, true);
            for (Field field : one.getDeclaredFields()) {
                Due.is(field + " is of an allowed type", isAllowed(field.getType()), true);
                boolean changes = Modifier.isStatic(field.getModifiers()) && !Modifier.isFinal(field.getModifiers());
                Due.is(field + " is static and not final", changes, false);
            }
        }
    }

    /** Numbers, rows of numbers of one or two dimensions, and classes of one's own: so no call goes to a library's object. */
    private static boolean isAllowed(Class<?> type) {
        Class<?> inner = type;
        int dimensions = 0;
        while (inner.isArray()) {
            inner = inner.getComponentType();
            dimensions++;
        }
        return inner.isPrimitive() ? dimensions <= 2 : inner.getNestHost() == BillHouse.class && dimensions <= 1;
    }

    /** One room of 600,000 objects and 7.3 million fields and elements holds thousands of houses, full or not. */
    private static void room() throws IllegalAccessException {
        long[] empty = objectsAndElements(new BillHouse());
        long[] full = objectsAndElements(Houses.full());
        Due.is("objects of " + empty[0], empty[0] <= 60, true);
        Due.is("fields and elements of " + empty[1], empty[1] <= 2500, true);
        Due.is("objects of a full house", full[0], empty[0]);
        Due.is("fields and elements of a full house", full[1], empty[1]);
    }

    private static long[] objectsAndElements(Object object) throws IllegalAccessException {
        long[] sum = {1, 0};
        if (object.getClass().isArray()) {
            sum[1] = Array.getLength(object);
            if (object instanceof Object[] parts) {
                for (Object part : parts) {
                    add(sum, part);
                }
            }
            return sum;
        }
        for (Field field : object.getClass().getDeclaredFields()) {
            if (!Modifier.isStatic(field.getModifiers())) {
                sum[1]++;
                field.setAccessible(true);
                add(sum, field.getType().isPrimitive() ? null : field.get(object));
            }
        }
        return sum;
    }

    private static void add(long[] sum, Object part) throws IllegalAccessException {
        if (part != null) {
            long[] more = objectsAndElements(part);
            sum[0] += more[0];
            sum[1] += more[1];
        }
    }

    private static String withoutComment(String line) {
        String text = line.strip();
        if (text.startsWith("/**") || text.startsWith("*")) {
            return "";
        }
        int comment = line.indexOf("//");
        return comment < 0 ? line : line.substring(0, comment);
    }

    private static void forbiddenWords(List<String> code) {
        for (String line : code) {
            Matcher matcher = FORBIDDEN.matcher(line);
            Due.is("forbidden in: " + line, matcher.find(), false);
            if (line.startsWith("import") || line.startsWith("package")) {
                Due.is("allowed " + line, IMPORTS.contains(line), true);
            }
        }
    }

    /** So no call makes objects, and the room of a run is that of its constructors. */
    private static void objectsInConstructorsAlone(List<String> code) {
        boolean inConstructor = false;
        for (String line : code) {
            inConstructor = line.equals("    public BillHouse() {") || inConstructor && !line.equals("    }");
            if (line.matches(".*\\bnew\\b.*") && !inConstructor) {
                Due.is("made beside a field: " + line, line.matches(" +private final .* = new .*;"), true);
            }
        }
    }

    private static void shortMethods(List<String> code) {
        int start = -1;
        for (int i = 0; i < code.size(); i++) {
            Matcher matcher = METHOD.matcher(code.get(i));
            if (matcher.matches()) {
                start = i;
                Due.is("parameters of " + code.get(i), matcher.group(2).split(",").length <= 7, true);
            }
            if (start >= 0 && code.get(i).matches(" +\\}")) {
                Due.is("length of " + code.get(start), i - start <= 60, true);
            }
            if (code.get(i).isBlank()) {
                start = -1;
            }
        }
    }

    private static void libraryCalls(List<String> code) {
        for (String line : code) {
            Matcher matcher = LIBRARY_CALL.matcher(line);
            while (matcher.find()) {
                Due.is("allowed " + matcher.group(1), LIBRARY.contains(matcher.group(1)), true);
            }
        }
    }

    private static void callsNotTooDeep(List<String> code) {
        Map<String, Set<String>> calls = callsByMethod(code);
        for (String method : FACE) {
            String name = method.substring(method.indexOf(' ') + 1, method.indexOf('('));
            Due.is("calls of " + name + " were found", calls.containsKey(name), true);
            Due.is("calls from " + name + " go too deep", depth(name, calls, 0) > MOST_DEEP, false);
        }
    }

    /** Methods of one name in several classes are taken as one, which can only make the depth greater. */
    private static Map<String, Set<String>> callsByMethod(List<String> code) {
        Map<String, Set<String>> calls = new TreeMap<>();
        String current = "";
        for (String line : code) {
            Matcher header = METHOD.matcher(line);
            if (header.matches()) {
                current = header.group(1);
                calls.computeIfAbsent(current, name -> new TreeSet<>());
                continue;
            }
            Matcher call = CALL.matcher(line);
            while (call.find() && calls.containsKey(current)) {
                calls.get(current).add(call.group(1));
            }
        }
        return calls;
    }

    /** How many methods stand open at once at most; one that calls itself counts as too many. */
    private static int depth(String name, Map<String, Set<String>> calls, int above) {
        if (!calls.containsKey(name) || above > MOST_DEEP) {
            return 0;
        }
        int below = 0;
        for (String called : calls.get(name)) {
            below = Math.max(below, depth(called, calls, above + 1));
        }
        return 1 + below;
    }
}
