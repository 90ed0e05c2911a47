import java.io.IOException;
import java.lang.reflect.InvocationTargetException;
import java.lang.reflect.Method;
import java.nio.file.Files;
import java.nio.file.Path;
import java.util.ArrayList;
import java.util.List;
import java.util.Map;
import java.util.TreeMap;
import java.util.regex.Matcher;
import java.util.regex.Pattern;
import java.util.stream.Collectors;
import java.util.stream.Stream;

/** What README.md says holds: the run of calls that it shows, and its tables. */
public final class ReadmeTest {
    private static final String OBJECT = "CoverOrder x = new CoverOrder();";
    private static final Pattern WORD =
            Pattern.compile("for \\(char letter : \"(.*)\"\\.toCharArray\\(\\)\\) \\{");
    private static final Pattern CALL = Pattern.compile("x\\.(\\w+)\\((.*)\\); +// (\\w+|-\\d+): .+");
    private static final Pattern ROW = Pattern.compile("\\| `(\\w+)\\((.*)\\)` \\| (.*) \\| (.*)\\|");
    private static final Pattern NUMBER = Pattern.compile("\\| `([A-Z]+)` \\| (-\\d+) \\| .+ \\|");
    private static final Pattern TEST = Pattern.compile("\\| `(\\w+Test)` \\| .+ \\|");
    private static final Pattern PROMISE = Pattern.compile("`(?:int|long) (\\w+)\\(.*\\)`: (.*)");
    private static final Pattern REFUSAL = Pattern.compile("UNKNOWN|OUTSIDE|STATE|FULL");
    private static final List<String> NAMES =
            List.of("UNKNOWN", "OUTSIDE", "STATE", "FULL", "NONE");

    private static CoverOrder x;
    private static int calls;

    private ReadmeTest() {
    }

    public static void main(String[] args) throws Exception {
        List<String> page = Files.readAllLines(Path.of("README.md"));
        theRun(page);
        theTablesOfCalls(page);
        theNumbers(page);
        theListOfTests(page);
        Check.end("ReadmeTest");
    }

    private static void yes(String what, boolean so) {
        Check.due(what, so ? 1 : 0, 1);
    }

    /** All rows between ```java and ``` are one run. */
    private static void theRun(List<String> page) throws Exception {
        boolean inside = false;
        String word = "";
        for (String line : page) {
            if (line.startsWith("```")) {
                inside = line.equals("```java");
            } else if (inside) {
                Matcher loop = WORD.matcher(line);
                if (loop.matches()) {
                    word = loop.group(1);
                } else if (line.equals("    x.write(letter);")) {
                    Check.write(x, word);
                } else {
                    oneRow(line);
                }
            }
        }
        yes("a run of calls", calls > 50);
    }

    private static void oneRow(String line) throws Exception {
        if (line.equals(OBJECT)) {
            x = new CoverOrder();
            return;
        }
        Matcher call = CALL.matcher(line);
        if (!call.matches()) {
            yes("a row of README.md that says what is answered: " + line, line.equals("}"));
            return;
        }
        calls++;
        Check.due(line, answer(call.group(1), call.group(2)), number(call.group(3)));
    }

    private static long answer(String name, String told) throws Exception {
        Method method = methods().get(name);
        yes("there is a call " + name, method != null);
        String[] words = told.isEmpty() ? new String[0] : told.split(", ");
        Class<?>[] types = method.getParameterTypes();
        Check.due("arguments of " + name + "(" + told + ")", words.length, types.length);
        Object[] arguments = new Object[types.length];
        for (int i = 0; i < types.length; i++) {
            arguments[i] = argument(words[i], types[i]);
        }
        try {
            return ((Number) method.invoke(x, arguments)).longValue();
        } catch (InvocationTargetException e) {
            throw new IllegalStateException(name + "(" + told + ") threw", e.getCause());
        }
    }

    private static Object argument(String word, Class<?> type) {
        if (type == boolean.class) {
            return Boolean.valueOf(word);
        }
        if (type == long.class) {
            return Long.valueOf(word);
        }
        return word.startsWith("'") ? Integer.valueOf(word.charAt(1)) : Integer.valueOf(word);
    }

    private static long number(String told) throws ReflectiveOperationException {
        return NAMES.contains(told) ? CoverOrder.class.getField(told).getInt(null)
                : Long.parseLong(told);
    }

    private static Map<String, Method> methods() {
        Map<String, Method> methods = new TreeMap<>();
        for (Method method : CoverOrder.class.getDeclaredMethods()) {
            if (java.lang.reflect.Modifier.isPublic(method.getModifiers())) {
                methods.put(method.getName(), method);
            }
        }
        return methods;
    }

    /** Each public method once, with its arguments, and the refusals as DOC.md has them. */
    private static void theTablesOfCalls(List<String> page) throws IOException {
        Map<String, Method> methods = methods();
        Map<String, String> refusals = refusalsOfTheDocument();
        List<String> told = new ArrayList<>();
        for (String line : page) {
            Matcher row = ROW.matcher(line);
            if (row.matches()) {
                String name = row.group(1);
                told.add(name);
                yes("README.md tells a call that there is: " + name, methods.containsKey(name));
                yes("the arguments of " + name,
                        methods.containsKey(name) && row.group(2).equals(face(methods.get(name), row)));
                yes("the refusals of " + name + ": " + row.group(4).trim() + " for "
                        + refusals.get(name), row.group(4).trim().equals(refusals.get(name)));
            }
        }
        told.sort(null);
        yes("each call once: " + told, told.equals(new ArrayList<>(methods.keySet())));
    }

    /** The arguments with their types as they are and the names as they are told. */
    private static String face(Method method, Matcher row) {
        String[] told = row.group(2).isEmpty() ? new String[0] : row.group(2).split(", ");
        Class<?>[] types = method.getParameterTypes();
        if (told.length != types.length) {
            return "" + types.length;
        }
        List<String> face = new ArrayList<>();
        for (int i = 0; i < types.length; i++) {
            face.add(types[i] + " " + told[i].substring(told[i].indexOf(' ') + 1));
        }
        return String.join(", ", face);
    }

    private static Map<String, String> refusalsOfTheDocument() throws IOException {
        Map<String, String> refusals = new TreeMap<>();
        for (String line : Files.readAllLines(Path.of("../shared/DOC.md"))) {
            Matcher promise = PROMISE.matcher(line);
            if (promise.matches()) {
                String told = REFUSAL.matcher(promise.group(2)).results()
                        .map(found -> found.group()).collect(Collectors.joining(", "));
                refusals.put(promise.group(1), told);
            }
        }
        Check.due("promises of calls in DOC.md", refusals.size(), methods().size());
        return refusals;
    }

    private static void theNumbers(List<String> page) throws ReflectiveOperationException {
        List<String> told = new ArrayList<>();
        for (String line : page) {
            Matcher row = NUMBER.matcher(line);
            if (row.matches()) {
                told.add(row.group(1));
                Check.due(row.group(1), number(row.group(1)), Long.parseLong(row.group(2)));
            }
        }
        yes("each constant once: " + told, told.equals(NAMES));
    }

    private static void theListOfTests(List<String> page) throws IOException {
        List<String> told = new ArrayList<>();
        for (String line : page) {
            Matcher row = TEST.matcher(line);
            if (row.matches()) {
                told.add(row.group(1) + ".java");
            }
        }
        told.sort(null);
        try (Stream<Path> files = Files.list(Path.of("src/test/java"))) {
            List<String> are = files.map(file -> file.getFileName().toString())
                    .filter(name -> name.endsWith("Test.java")).sorted()
                    .collect(Collectors.toList());
            yes("the list of tests " + told + " for " + are, told.equals(are));
        }
    }
}
