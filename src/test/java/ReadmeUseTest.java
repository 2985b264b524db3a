import java.io.IOException;
import java.lang.reflect.Method;
import java.lang.reflect.Modifier;
import java.nio.file.Files;
import java.nio.file.Path;
import java.util.ArrayList;
import java.util.List;
import java.util.Set;
import java.util.TreeSet;
import java.util.regex.Matcher;
import java.util.regex.Pattern;

/** README.md shows each call of the face, and each call that it shows answers what stands behind it. */
public final class ReadmeUseTest {
    private static final Due due = new Due("ReadmeUseTest");

    /** "x.best(0);  // 4: the DAY of most COUNT": one call and its answer. */
    private static final Pattern ANSWERED = Pattern.compile("(x\\.(\\w+)\\(.*\\)); *// (-?\\d+)(: .*)?");
    private static final Pattern PREPARING =
        Pattern.compile("WhenCanAllSix x = new WhenCanAllSix\\(\\);|String \\w+ = .*;|for \\(.*\\) x\\.feed\\(letter\\);");

    public static void main(String[] args) throws Exception {
        StringBuilder steps = new StringBuilder();
        Set<String> shown = new TreeSet<>();
        int answers = 0;
        for (String line : lines()) {
            Matcher answered = ANSWERED.matcher(line);
            if (answered.matches()) {
                shown.add(answered.group(2));
                answers++;
                steps.append("        said(\"" + answered.group(1).replace("\"", "\\\"") + "\", ")
                    .append(answered.group(1) + ", " + answered.group(3) + ");\n");
            } else {
                due.isTrue("README.md tells what this answers, or it prepares a call: " + line,
                    PREPARING.matcher(line).matches());
                steps.append("        " + line + "\n");
            }
        }
        for (Method method : WhenCanAllSix.class.getDeclaredMethods()) {
            if (Modifier.isPublic(method.getModifiers())) {
                due.isTrue("README.md shows " + method.getName(), shown.contains(method.getName()));
            }
        }
        due.is("calls of the face", shown.size(), 64);
        runSteps(steps.toString(), answers);
        due.end();
    }

    private static List<String> lines() throws IOException {
        List<String> lines = new ArrayList<>();
        for (String block : Readme.blocks("java")) {
            lines.addAll(block.lines().toList());
        }
        return lines;
    }

    /** All blocks are one program, as each goes on with the object of those ahead; compiled as README.md says. */
    private static void runSteps(String steps, int answers) throws IOException, InterruptedException {
        Path folder = Shell.newFolder();
        Files.copy(Path.of("src/main/java/WhenCanAllSix.java"), folder.resolve("WhenCanAllSix.java"));
        Files.writeString(folder.resolve("ReadmeUse.java"), """
            public final class ReadmeUse {
                private static int asTold;

                private static void said(String call, long got, long told) {
                    asTold += got == told ? 1 : 0;
                    if (got != told) {
                        System.out.println(call + " answered " + got + ", README.md says " + told);
                    }
                }

                public static void main(String[] args) {
            STEPS        System.out.println("as told: " + asTold);
                }
            }
            """.replace("STEPS", steps));
        Shell run = Shell.run(folder, "javac -Xlint:all WhenCanAllSix.java ReadmeUse.java && java ReadmeUse");
        due.is("the exit code of the calls in README.md", run.exit, 0);
        due.isTrue("all answers are as README.md tells them:\n" + run.printed,
            run.printed.equals("as told: " + answers + System.lineSeparator()));
    }
}
