import java.io.DataInputStream;
import java.io.IOException;
import java.io.InputStream;
import java.lang.management.ManagementFactory;
import java.lang.reflect.Constructor;
import java.lang.reflect.Field;
import java.lang.reflect.Method;
import java.lang.reflect.Modifier;
import java.nio.charset.StandardCharsets;
import java.nio.file.Files;
import java.nio.file.Path;
import java.util.ArrayList;
import java.util.Arrays;
import java.util.List;
import java.util.Set;
import java.util.TreeSet;
import java.util.regex.Matcher;
import java.util.regex.Pattern;

/** The face of the document and the rules of LANGUAGE.md, as far as a program can look at them. */
public final class LanguageTest {
    private static final Due due = new Due("LanguageTest");
    private static final Path SOURCE = Path.of("src/main/java/WhenCanAllSix.java");

    /** Rule 4, and what the compiler puts in for enums, records, boxes and loops; names as class files spell them. */
    private static final Pattern LIBRARY = Pattern.compile("java/lang/(?:Object\\.(?:<init>|clone|getClass)"
        + "|Enum\\.(?:<init>|ordinal|valueOf)|Record\\.<init>"
        + "|String\\.(?:<init>|length|charAt|isEmpty|equals|indexOf|substring|toCharArray)"
        + "|StringBuilder\\.(?:<init>|append|charAt|setCharAt|setLength|deleteCharAt|reverse|length|toString)"
        + "|(?:Integer|Long|Math)\\.(?!\\w*Exact)\\w+|System\\.arraycopy|(?:Iterable|Comparable)\\.\\w+)"
        + "|java/util/(?:(?:Array)?List\\.(?:<init>|add|get|set|remove|size|isEmpty|clear|iterator|of)|Iterator\\.\\w+"
        + "|Arrays\\.(?:copyOf|copyOfRange|fill)|Objects\\.requireNonNull)|\\[.*\\.clone");

    // Rule 11 says "some" of these numbers.
    private static final int SOME_CLASSES = 14;
    private static final int SOME_FIELDS = 24;
    private static final int SOME_LINES = 70;

    // The project's page: 600,000 objects and arrays, 7.3 million fields and elements, in bytes at their widest.
    private static final long ROOM = 600_000 * 16L + 7_300_000 * 8L;

    public static void main(String[] args) throws Exception {
        face();
        classesInside();
        library();
        source();
        roomOfARun();
        due.end();
    }

    private static List<Class<?>> classes() {
        List<Class<?>> classes = new ArrayList<>(List.of(WhenCanAllSix.class));
        for (int i = 0; i < classes.size(); i++) {
            classes.addAll(Arrays.asList(classes.get(i).getDeclaredClasses()));
        }
        return classes;
    }

    private static void face() {
        Set<String> want = new TreeSet<>();
        Matcher line = Pattern.compile("(?m)^    (public .*);$").matcher(Document.text());
        while (line.find()) {
            want.add(line.group(1).replaceAll("(\\w+) \\w+(?=[,)])", "$1"));
        }
        due.is("members of the document", want.size(), 66);
        Set<String> got = new TreeSet<>();
        for (Method method : WhenCanAllSix.class.getDeclaredMethods()) {
            if (!Modifier.isPrivate(method.getModifiers())) {
                got.add("public " + method.getReturnType() + " " + method.getName() + types(method.getParameterTypes()));
            }
        }
        for (Constructor<?> constructor : WhenCanAllSix.class.getDeclaredConstructors()) {
            got.add("public WhenCanAllSix" + types(constructor.getParameterTypes()));
        }
        for (Field field : WhenCanAllSix.class.getDeclaredFields()) {
            if (!Modifier.isPrivate(field.getModifiers())) {
                got.add("public static final int " + field.getName() + " = -1");
            }
        }
        due.isTrue("the face is the document's: " + got, got.equals(want));
        due.isTrue("the class is public and final", Modifier.toString(WhenCanAllSix.class.getModifiers()).equals("public final"));
    }

    private static String types(Class<?>[] types) {
        return "(" + String.join(", ", Arrays.stream(types).map(Class::getName).toList()) + ")";
    }

    private static void classesInside() {
        Set<String> face = new TreeSet<>();
        for (Method method : WhenCanAllSix.class.getDeclaredMethods()) {
            if (Modifier.isPublic(method.getModifiers())) {
                face.add(method.getName());
            }
        }
        due.isTrue("some twelve classes at most", classes().size() <= SOME_CLASSES);
        for (Class<?> one : classes()) {
            if (one != WhenCanAllSix.class) {
                due.isTrue(one + " is static", Modifier.isStatic(one.getModifiers()));
                due.isTrue(one + " is private or package-visible",
                    (one.getModifiers() & (Modifier.PUBLIC | Modifier.PROTECTED)) == 0);
            }
            int fields = 0;
            for (Field field : one.getDeclaredFields()) {
                boolean isStatic = Modifier.isStatic(field.getModifiers());
                fields += isStatic ? 0 : 1;
                due.isTrue(field + " is final if static", !isStatic || Modifier.isFinal(field.getModifiers()));
            }
            due.isTrue(one + " has some twenty fields at most", fields <= SOME_FIELDS);
            for (Method method : one.getDeclaredMethods()) {
                due.isTrue(method + " takes seven at most", method.getParameterCount() <= 7);
                boolean isPrivate = Modifier.isPrivate(method.getModifiers());
                due.isTrue(method + " has a name of its own", !isPrivate || !face.contains(method.getName()));
            }
        }
    }

    private static void library() throws IOException {
        for (Class<?> one : classes()) {
            for (String called : calledBy(one)) {
                boolean own = called.startsWith("WhenCanAllSix") || (one.isRecord() && called.equals("invokedynamic"));
                due.isTrue(one + " calls " + called, own || LIBRARY.matcher(called).matches());
            }
        }
    }

    /** All methods in the constant pool of the class file; a call of invokedynamic is told as one, too. */
    private static Set<String> calledBy(Class<?> one) throws IOException {
        Set<String> called = new TreeSet<>();
        try (InputStream file = one.getResourceAsStream("/" + one.getName() + ".class");
                DataInputStream in = new DataInputStream(file)) {
            in.readLong();
            int size = in.readUnsignedShort();
            String[] texts = new String[size];
            int[][] pairs = new int[size][];
            int[] tags = new int[size];
            for (int i = 1; i < size; i++) {
                tags[i] = in.readUnsignedByte();
                switch (tags[i]) {
                    case 1 -> texts[i] = in.readUTF();
                    case 7, 8, 16, 19, 20 -> pairs[i] = new int[] {in.readUnsignedShort()};
                    case 3, 4 -> in.readInt();
                    case 15 -> in.skipBytes(3);
                    case 5, 6 -> {
                        in.readLong();
                        i++;
                    }
                    default -> pairs[i] = new int[] {in.readUnsignedShort(), in.readUnsignedShort()};
                }
            }
            for (int i = 1; i < size; i++) {
                if (tags[i] == 10 || tags[i] == 11) {
                    called.add(texts[pairs[pairs[i][0]][0]] + "." + texts[pairs[pairs[i][1]][0]]);
                } else if (tags[i] == 17 || tags[i] == 18) {
                    called.add("invokedynamic");
                }
            }
        }
        return called;
    }

    private static void source() throws IOException {
        String text = Files.readString(SOURCE);
        due.isTrue("signs 1 to 127", StandardCharsets.US_ASCII.newEncoder().canEncode(text));
        String bare = text.replaceAll("(?s)/\\*.*?\\*/|//[^\n]*", "")
            .replaceAll("\"([^\"\\\\]|\\\\.)*\"", "TEXT").replaceAll("'([^'\\\\]|\\\\.)+'", "SIGN");
        for (String word : List.of("throw", "throws", "try", "catch", "finally", "synchronized", "assert", "package",
                "protected")) {
            due.isTrue("no '" + word + "'", !Pattern.compile("\\b" + word + "\\b").matcher(bare).find());
        }
        due.isTrue("no method reference", !bare.contains("::"));
        Matcher imported = Pattern.compile("(?m)^import (.*);").matcher(bare);
        while (imported.find()) {
            due.isTrue("import of " + imported.group(1),
                imported.group(1).matches("java\\.util\\.(Arrays|ArrayList|List|Iterator)"));
        }
        String[] lines = text.split("\n");
        int began = -1;
        for (int i = 0; i < lines.length; i++) {
            if (lines[i].matches("( {4}| {8})\\w[^=]*\\) \\{") && !lines[i].matches(" *(for|if|while|switch|do)\\b.*")) {
                began = i;
            } else if (began >= 0 && lines[i].equals(lines[began].replaceAll("\\w.*", "}"))) {
                due.isTrue("some sixty lines at most:" + lines[began], i - began < SOME_LINES);
                began = -1;
            }
        }
    }

    /** One ROOM holds all that a run makes, the object itself too. */
    private static void roomOfARun() {
        due.promise(1);
        manyCalls(new WhenCanAllSix());
        com.sun.management.ThreadMXBean threads = (com.sun.management.ThreadMXBean) ManagementFactory.getThreadMXBean();
        if (!threads.isThreadAllocatedMemorySupported()) {
            return;
        }
        long before = threads.getCurrentThreadAllocatedBytes();
        manyCalls(new WhenCanAllSix());
        long bytes = threads.getCurrentThreadAllocatedBytes() - before;
        due.isTrue("bytes made in a run: " + bytes, bytes < ROOM);
    }

    private static void manyCalls(WhenCanAllSix x) {
        x.days(14);
        for (int p = 0; p < 8; p++) {
            x.person(p % 6, p, 12 - p);
        }
        String text = "free 0 1;least 1;out 7 3;host 2";
        for (int i = 0; i < text.length(); i++) {
            x.feed(text.charAt(i));
        }
        x.calendar();
        for (int i = 0; i < 10; i++) {
            x.years(50);
            x.fill();
            x.pass(2);
            x.row(i % 8, 1, 40);
            x.set(i % 8, 1, 2);
            x.copy(i % 8, i % 8, 0, 1, 5);
            x.show((i + 1) % 8, 3);
            x.says((i + 1) % 8, 3);
            x.fair(3, -1);
            x.three(-1);
            x.two(0);
            x.first(-1);
            x.never(99, 11, 0);
            x.offer(99, 11, 1000000);
            x.most(20, 6, 3);
            x.until(3, 1);
            x.best(1);
            x.order(13);
            x.without(3);
            x.meant(i % 8, 4);
            x.freed(i % 8, 4);
            x.done(i % 8, 1);
            x.image();
            x.back();
            x.dine(20);
        }
    }
}
