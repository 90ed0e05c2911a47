import java.io.File;
import java.io.IOException;
import java.io.PrintWriter;
import java.io.StringWriter;
import java.lang.reflect.Field;
import java.lang.reflect.Method;
import java.lang.reflect.Modifier;
import java.nio.charset.StandardCharsets;
import java.nio.file.Files;
import java.nio.file.Path;
import java.util.ArrayList;
import java.util.Arrays;
import java.util.HashSet;
import java.util.List;
import java.util.Map;
import java.util.Optional;
import java.util.Set;
import java.util.TreeMap;
import java.util.TreeSet;
import java.util.regex.Matcher;
import java.util.regex.Pattern;
import java.util.spi.ToolProvider;

/** What of LANGUAGE.md can be seen: in the source, by reflection, and in what javac makes of it. */
public final class LanguageTest {
    private static final String[] FORBIDDEN = {"throw", "throws", "try", "catch", "finally",
        "synchronized", "assert", "native", "volatile", "transient", "package", "import", "float",
        "double", "Thread", "Random", "Object", "Exception", "Throwable", "Error"};
    private static final Set<String> LIBRARY = Set.of("java/lang/Object.\"<init>\"",
            "java/lang/Math.max", "java/lang/Math.min", "java/lang/Integer.bitCount",
            "java/lang/Long.bitCount");
    private static final Set<Class<?>> NUMBERS =
            Set.of(int.class, long.class, boolean.class, int[].class);
    private static final Set<String> MAKING =
            Set.of("new", "newarray", "anewarray", "multianewarray");
    private static final Set<String> NEVER =
            Set.of("athrow", "monitorenter", "monitorexit", "invokedynamic", "checkcast");
    private static final String ONLY_RECURSION = "CoverOrder$Showing.fill";

    private static final Pattern CLASS = Pattern.compile(".*class (CoverOrder[\\w$]*) .*\\{");
    private static final Pattern METHOD = Pattern.compile("  (?! ).*?([\\w$]+)\\(.*\\);");
    private static final Pattern STEP = Pattern.compile(" +\\d+: (\\w+)\\b.*");
    private static final Pattern CALL = Pattern.compile(".*// Method (?:(.+)\\.)?([^.:]+):.*");
    private static final Pattern HEAD =
            Pattern.compile("( +)(?!if|for|while|switch|else|return)[\\w\\[\\] ]*\\w+\\(.*\\) \\{");

    /** Whom each method calls, of the methods of the class and the classes inside it. */
    private static final Map<String, Set<String>> CALLED = new TreeMap<>();

    private LanguageTest() {
    }

    public static void main(String[] args) throws IOException {
        words();
        lengths();
        kinds(CoverOrder.class);
        for (Class<?> inside : CoverOrder.class.getDeclaredClasses()) {
            kinds(inside);
            Check.due("classes inside " + inside, inside.getDeclaredClasses().length, 0);
        }
        yes("rule 11: some twelve classes", CoverOrder.class.getDeclaredClasses().length < 12);
        Optional<ToolProvider> javap = ToolProvider.findFirst("javap");
        if (javap.isPresent()) {
            code(listing(javap.get()));
            depths();
        } else {
            System.out.println("this JDK has no javap: rules 4, 6, 8, 11, 12 are not all looked at");
        }
        Check.end("LanguageTest");
    }

    private static void yes(String what, boolean so) {
        Check.due(what, so ? 1 : 0, 1);
    }

    private static String source() throws IOException {
        return Files.readString(Path.of("src/main/java/CoverOrder.java"),
                StandardCharsets.ISO_8859_1);
    }

    /** Rules 4, 6 and 13, as far as words tell. */
    private static void words() throws IOException {
        String source = source();
        String code = source.replaceAll("(?s)/\\*.*?\\*/", " ").replaceAll("//[^\n]*", " ");
        List<String> words = Arrays.asList(code.split("[^A-Za-z0-9_]+"));
        for (String word : FORBIDDEN) {
            yes("no word " + word, !words.contains(word));
        }
        yes("no method reference", !code.contains("::"));
        yes("no lambda", !code.contains("->"));
        yes("no text", !code.contains("\""));
        yes("no class without a name", !code.matches("(?s).*new \\w+\\([^)]*\\)\\s*\\{.*"));
        yes("no sign beyond 127", source.chars().allMatch(c -> c < 128));
    }

    /** Rule 11: a method has some sixty lines at most. */
    private static void lengths() throws IOException {
        String end = null;
        String head = "";
        int lines = 0;
        int methods = 0;
        for (String line : source().split("\n")) {
            Matcher begins = HEAD.matcher(line);
            lines++;
            if (end == null && begins.matches()) {
                end = begins.group(1) + "}";
                head = line;
                lines = 1;
                methods++;
            } else if (line.equals(end)) {
                yes("rule 11: " + lines + " lines of" + head, lines <= 60);
                end = null;
            }
        }
        yes("methods seen in the source", methods > 100);
    }

    /** Rules 1, 3, 5, 6 and 11, of one class. */
    private static void kinds(Class<?> one) {
        int held = 0;
        for (Field field : one.getDeclaredFields()) {
            boolean fixed = Modifier.isStatic(field.getModifiers());
            yes("rule 5: " + field, !fixed || Modifier.isFinal(field.getModifiers())
                    && (field.getType() == int.class || field.getType() == long.class));
            yes("rule 3: " + field, isAllowed(field.getType()));
            held += fixed ? 0 : 1;
        }
        yes("rule 11: fields of " + one, held <= 20);
        for (Method method : one.getDeclaredMethods()) {
            yes("rule 11: arguments of " + method, method.getParameterCount() <= 7);
            yes("rule 3: " + method, method.getReturnType() == void.class
                    || isAllowed(method.getReturnType()));
            for (Class<?> type : method.getParameterTypes()) {
                yes("rule 3: " + method, isAllowed(type));
            }
            yes("rule 6: " + method,
                    !Set.of("equals", "hashCode", "toString").contains(method.getName()));
            yes("rule 1: " + method, one == CoverOrder.class || !isPublicName(method.getName()));
        }
    }

    private static boolean isAllowed(Class<?> type) {
        Class<?> each = type.isArray() && !NUMBERS.contains(type) ? type.getComponentType() : type;
        return NUMBERS.contains(each) || each.getName().startsWith("CoverOrder$");
    }

    private static boolean isPublicName(String name) {
        for (Method method : CoverOrder.class.getDeclaredMethods()) {
            if (Modifier.isPublic(method.getModifiers()) && method.getName().equals(name)) {
                return true;
            }
        }
        return false;
    }

    /** Rules 4, 6 and 12, by each step of each method. */
    private static void code(String listing) {
        String owner = "";
        String method = "";
        for (String line : listing.split("\n")) {
            Matcher head = CLASS.matcher(line);
            Matcher name = METHOD.matcher(line);
            Matcher step = STEP.matcher(line);
            if (head.matches()) {
                owner = head.group(1);
            } else if (name.matches()) {
                boolean makes = name.group(1).equals(owner);
                method = owner + "." + (makes ? "\"<init>\"" : name.group(1));
                yes("one method of the name " + method, CALLED.put(method, new TreeSet<>()) == null);
            } else if (step.matches()) {
                step(owner, method, step.group(1), line);
            }
            yes("rule 6: no catch in " + method, !line.contains("Exception table"));
        }
        yes("methods seen in the code", CALLED.size() > 100);
    }

    private static void step(String owner, String method, String kind, String line) {
        yes("rule 6: no " + kind + " in " + method, !NEVER.contains(kind));
        yes("rule 12: only constructors make objects, not " + method,
                !MAKING.contains(kind) || method.endsWith("<init>\""));
        Matcher call = CALL.matcher(line);
        if (call.matches()) {
            String called = (call.group(1) == null ? owner : call.group(1)) + "." + call.group(2);
            if (called.startsWith("CoverOrder")) {
                CALLED.get(method).add(called);
            } else {
                yes("rule 4: " + called + " in " + method, LIBRARY.contains(called));
            }
        }
    }

    private static String listing(ToolProvider javap) {
        List<String> words = new ArrayList<>(List.of("-c", "-p"));
        for (String path : System.getProperty("java.class.path").split(File.pathSeparator)) {
            File[] files = new File(path).listFiles((folder, name) ->
                    name.matches("CoverOrder(\\$\\w+)?\\.class"));
            for (File file : files == null ? new File[0] : files) {
                words.add(file.getPath());
            }
        }
        StringWriter told = new StringWriter();
        PrintWriter out = new PrintWriter(told);
        Check.due("javap", javap.run(out, out, words.toArray(new String[0])), 0);
        out.flush();
        return told.toString();
    }

    /** Rules 8 and 11: one method alone calls itself, and calls go eight deep at most. */
    private static void depths() {
        for (String method : CALLED.keySet()) {
            int deep = depth(method, new HashSet<>());
            yes("rule 11: calls go " + deep + " deep from " + method, deep <= 8);
        }
    }

    private static int depth(String method, Set<String> open) {
        yes("rule 8: no recursion by " + method, open.add(method));
        yes("a known method " + method, CALLED.containsKey(method));
        int deepest = 0;
        for (String called : CALLED.getOrDefault(method, Set.of())) {
            boolean itself = called.equals(method) && method.equals(ONLY_RECURSION);
            if (!itself && !open.contains(called)) {
                deepest = Math.max(deepest, depth(called, open));
            } else {
                yes("rule 8: no recursion from " + method + " to " + called, itself);
            }
        }
        open.remove(method);
        return 1 + deepest;
    }
}
