import java.io.PrintWriter;
import java.io.StringWriter;
import java.nio.file.Path;
import java.util.ArrayDeque;
import java.util.Deque;
import java.util.Set;
import java.util.TreeMap;
import java.util.TreeSet;
import java.util.regex.Matcher;
import java.util.regex.Pattern;
import java.util.spi.ToolProvider;

/** The rules of LANGUAGE.md that can be seen in what javac makes of the class, and what README.md says of objects. */
public final class BytecodeTest {
    private static final Due due = new Due("BytecodeTest");
    private static final int DEEPEST = 8;

    private static final Pattern METHOD = Pattern.compile("  (?:[\\w.$\\[\\]]+ )*([\\w.$]+)\\(.*\\);");
    private static final Pattern CALL = Pattern.compile(" +\\d+: invoke\\w+ .*// Method (\\S+):.*");
    private static final Pattern MAKES = Pattern.compile(" +\\d+: (?:new|newarray|anewarray|multianewarray) .*");

    /** The methods that each method calls, and those that make an object or an array. */
    private static final TreeMap<String, Set<String>> calls = new TreeMap<>();
    private static final Set<String> makers = new TreeSet<>();

    public static void main(String[] args) throws Exception {
        Path built = Path.of(BytecodeTest.class.getProtectionDomain().getCodeSource().getLocation().toURI());
        Class<?>[] inside = WhenCanAllSix.class.getDeclaredClasses();
        look(built, WhenCanAllSix.class);
        for (Class<?> one : inside) {
            look(built, one);
        }
        due.isTrue("methods are found", calls.size() > 150 && calls.containsKey("WhenCanAllSix.calendar"));
        for (String method : calls.keySet()) {
            due.isTrue("rule 11: calls go at most eight deep: " + deepest(method, new ArrayDeque<>()),
                deepest(method, new ArrayDeque<>()).size() <= DEEPEST);
        }
        for (String method : makers) {
            due.isTrue("README.md: no call makes an object: " + method, method.endsWith(".<init>"));
        }
        due.isTrue("makers are found", makers.contains("WhenCanAllSix.<init>"));
        due.end();
    }

    private static void look(Path built, Class<?> one) {
        String method = "";
        for (String line : javap(built.resolve(one.getName() + ".class")).split("\\R")) {
            Matcher begun = METHOD.matcher(line);
            Matcher call = CALL.matcher(line);
            if (begun.matches()) {
                boolean makes = begun.group(1).equals(one.getName());
                method = one.getName() + "." + (makes ? "<init>" : begun.group(1));
                calls.putIfAbsent(method, new TreeSet<>());
            } else if (call.matches()) {
                String called = call.group(1).replace("\"", "");
                calls.get(method).add(called.contains(".") ? called : one.getName() + "." + called);
            } else if (MAKES.matcher(line).matches()) {
                makers.add(method);
            }
            due.isTrue("rule 6: neither throw nor catch in " + method + ": " + line,
                !line.matches(" +\\d+: athrow.*|\\s+Exception table:"));
            due.isTrue("rules 2 and 10: neither a lambda nor texts joined by + in " + method + ": " + line,
                !line.contains(": invokedynamic "));
        }
    }

    private static String javap(Path file) {
        StringWriter told = new StringWriter();
        PrintWriter to = new PrintWriter(told);
        int exit = ToolProvider.findFirst("javap").orElseThrow().run(to, to, "-p", "-c", file.toString());
        due.is("the exit code of javap", exit, 0);
        return told.toString();
    }

    /** The longest way of own calls that begins with this one. */
    private static Deque<String> deepest(String method, Deque<String> ahead) {
        Deque<String> longest = new ArrayDeque<>();
        if (ahead.contains(method)) {
            due.isTrue("no recursion: " + ahead + " calls " + method, false);
            return longest;
        }
        ahead.addLast(method);
        for (String called : calls.getOrDefault(method, Set.of())) {
            if (calls.containsKey(called)) {
                Deque<String> way = deepest(called, ahead);
                longest = way.size() > longest.size() ? way : longest;
            }
        }
        ahead.removeLast();
        longest.addFirst(method);
        return longest;
    }
}
