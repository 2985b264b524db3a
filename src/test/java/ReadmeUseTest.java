import java.io.IOException;
import java.lang.reflect.Method;
import java.lang.reflect.Modifier;
import java.nio.file.Files;
import java.nio.file.Path;
import java.util.Set;
import java.util.TreeSet;
import java.util.regex.Matcher;
import java.util.regex.Pattern;

/** README.md shows each call of the face, and each call that it shows answers what stands behind it. */
public final class ReadmeUseTest {
    private static final Due due = new Due("ReadmeUseTest");

    /** "x.best(0);  // 4: the DAY of most COUNT": one call and its answer. */
    private static final Pattern ANSWERED = Pattern.compile("(x\\.(\\w+)\\(.*\\)); *// (-?\\d+)(: .*)?");
    private static final Pattern PREPARING =
        Pattern.compile("WhenCanAllSix x = new WhenCanAllSix\\(\\);|String \\w+ = .*;|for \\(.*\\) x\\.feed\\(letter\\);");

    /** "| 2 WAITING | 0 | 1 |": the TICKS of 2 for DAYS 0 and 1; "| COUNT | 3 | 6 |": their COUNTS. */
    private static final Pattern TOLD_ROW = Pattern.compile("\\| (?:(\\d) [A-Z]+|COUNT) \\|((?: \\d+ \\|)+)");

    private static final StringBuilder steps = new StringBuilder();
    private static final Set<String> shown = new TreeSet<>();
    private static int answers;
    private static int rows;

    public static void main(String[] args) throws Exception {
        boolean isJava = false;
        for (String line : Files.readAllLines(Path.of("README.md"))) {
            if (line.startsWith("```")) {
                isJava = line.equals("```java");
            } else if (isJava) {
                readStep(line);
            } else {
                readRow(line);
            }
        }
        for (Method method : WhenCanAllSix.class.getDeclaredMethods()) {
            if (Modifier.isPublic(method.getModifiers())) {
                due.isTrue("README.md shows " + method.getName(), shown.contains(method.getName()));
            }
        }
        due.is("calls of the face", shown.size(), 64);
        due.is("rows of TICKS and COUNTS", rows, 7);
        runSteps();
        due.end();
    }

    private static void readStep(String line) {
        Matcher answered = ANSWERED.matcher(line);
        if (answered.matches()) {
            shown.add(answered.group(2));
            said(answered.group(1), answered.group(3));
        } else {
            due.isTrue("README.md tells what this answers, or it prepares a call: " + line,
                PREPARING.matcher(line).matches());
            steps.append("        " + line + "\n");
        }
    }

    private static void readRow(String line) {
        Matcher row = TOLD_ROW.matcher(line);
        if (!row.matches()) {
            return;
        }
        rows++;
        String[] told = row.group(2).replace(" ", "").split("\\|");
        for (int day = 0; day < told.length; day++) {
            said(row.group(1) == null ? "x.count(" + day + ")" : "x.tick(" + row.group(1) + ", " + day + ")", told[day]);
        }
    }

    private static void said(String call, String answer) {
        answers++;
        steps.append("        said(\"" + call.replace("\"", "\\\"") + "\", " + call + ", " + answer + ");\n");
    }

    /** All blocks are one program, as each goes on with the object of those ahead; compiled as README.md says. */
    private static void runSteps() throws IOException, InterruptedException {
        Path folder = Shell.newFolder();
        Files.copy(Path.of("src/main/java/WhenCanAllSix.java"), folder.resolve("WhenCanAllSix.java"));
        Files.writeString(folder.resolve("ReadmeUse.java"), """
            public final class ReadmeUse {
                private static int asTold;

                private static void said(String call, long got, long told) {
                    asTold += got == told ? 1 : 0;
                    if (got != told) {
                        System.out.println(call + " answered " + got + ", README.md says " + told);
                    }
                }

                public static void main(String[] args) {
            STEPS        System.out.println("as told: " + asTold);
                }
            }
            """.replace("STEPS", steps.toString()));
        Shell run = Shell.run(folder, "javac -Xlint:all WhenCanAllSix.java ReadmeUse.java && java ReadmeUse");
        due.is("the exit code of the calls in README.md", run.exit, 0);
        due.isTrue("all answers are as README.md tells them:\n" + run.printed,
            run.printed.equals("as told: " + answers + System.lineSeparator()));
    }
}
