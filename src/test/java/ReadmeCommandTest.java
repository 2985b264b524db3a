import java.io.IOException;
import java.nio.file.Files;
import java.nio.file.Path;
import java.nio.file.StandardCopyOption;
import java.util.ArrayList;
import java.util.List;
import java.util.regex.MatchResult;
import java.util.regex.Pattern;

/**
 * The commands of README.md: the first runs all tests that there are, and fails if one fails; the second runs one.
 * They are run in projects made for it, where stand-ins with the names of the tests tell that they were run.
 */
public final class ReadmeCommandTest {
    private static final Due due = new Due("ReadmeCommandTest");

    /** A block of one line for the shell. */
    private static final Pattern COMMAND = Pattern.compile("(?m)^```sh\n(.*)\n```$");

    private static final Path OWN = Path.of("src/test/java");
    private static final Path MAIN = Path.of("src/main/java");
    private static final Path SHARED = Path.of("../shared/tests");
    private static final Path OWN_TEST = OWN.resolve("OwnTest.java");
    private static final Path SHARED_TEST = SHARED.resolve("SharedRuns.java");

    private static final String PASSES = "";
    private static final String FAILS = "System.exit(1);";
    private static final String THROWS = "throw new IllegalStateException();";
    private static final String DOES_NOT_COMPILE = "no Java;";

    public static void main(String[] args) throws Exception {
        List<String> commands = COMMAND.matcher(Files.readString(Path.of("README.md"))).results()
            .map((MatchResult block) -> block.group(1)).toList();
        due.is("commands in README.md", commands.size(), 2);
        allTestsRun(commands.get(0));
        oneFails(commands.get(0));
        oneAlone(commands.get(1));
        due.end();
    }

    /** All files under a folder that have a main method: what lies deeper, or has a name of its own, is a test too. */
    private static List<Path> testsUnder(Path folder) throws IOException {
        List<Path> tests = new ArrayList<>();
        for (Path path : Shell.under(folder)) {
            if (path.toString().endsWith(".java") && Files.readString(path).contains("static void main(")) {
                tests.add(path);
            }
        }
        return tests;
    }

    private static void allTestsRun(String command) throws IOException, InterruptedException {
        List<Path> tests = testsUnder(OWN);
        due.isTrue("tests of the project are found: " + tests, tests.contains(OWN.resolve("ReadmeCommandTest.java")));
        List<Path> shared = testsUnder(SHARED);
        due.isTrue("tests under ../shared/tests are found", !shared.isEmpty());
        tests.addAll(shared);
        Path project = newProject();
        for (Path test : tests) {
            standIn(project, test, PASSES);
        }
        Shell run = Shell.run(project, command);
        due.is("the exit code of " + command, run.exit, 0);
        for (Path test : tests) {
            due.is("runs of " + test, run.timesPrinted("stand-in for " + test), 1);
        }
        due.is("its count of tests", run.timesPrinted(tests.size() + " passed, 0 failed"), 1);
    }

    private static void oneFails(String command) throws IOException, InterruptedException {
        fails(command, PASSES, FAILS);
        fails(command, FAILS, PASSES);
        fails(command, THROWS, PASSES);
        fails(command, PASSES, DOES_NOT_COMPILE);
        fails(command, DOES_NOT_COMPILE, PASSES);
        Path noShared = newProject();
        standIn(noShared, OWN_TEST, PASSES);
        due.isTrue("without a test under ../shared/tests it fails", Shell.run(noShared, command).exit != 0);
        Path noClass = newProject();
        standIn(noClass, OWN_TEST, PASSES);
        standIn(noClass, SHARED_TEST, PASSES);
        Files.writeString(noClass.resolve(MAIN).resolve("WhenCanAllSix.java"), DOES_NOT_COMPILE);
        due.isTrue("without a class that compiles it fails", Shell.run(noClass, command).exit != 0);
    }

    /** One of two tests fails; the other is run all the same. */
    private static void fails(String command, String own, String shared) throws IOException, InterruptedException {
        Path project = newProject();
        standIn(project, OWN_TEST, own);
        standIn(project, SHARED_TEST, shared);
        Shell run = Shell.run(project, command);
        String which = "one's own test " + own + ", the shared one " + shared + ": ";
        due.isTrue(which + "it fails", run.exit != 0);
        due.is(which + "its count of tests", run.timesPrinted("1 passed, 1 failed"), 1);
        due.is(which + "own failed", run.timesPrinted("FAILED: OwnTest"), own.isEmpty() ? 0 : 1);
        due.is(which + "shared failed", run.timesPrinted("FAILED: SharedRuns"), shared.isEmpty() ? 0 : 1);
    }

    /** A folder with this project's .ci/run and a class; no test yet. */
    private static Path newProject() throws IOException {
        Path project = Files.createDirectory(Shell.newFolder().resolve("main"));
        Files.createDirectories(project.resolve(".ci"));
        Files.createDirectories(project.resolve(MAIN));
        Files.copy(Path.of(".ci/run"), project.resolve(".ci/run"), StandardCopyOption.COPY_ATTRIBUTES);
        Files.writeString(project.resolve(MAIN).resolve("WhenCanAllSix.java"), "public final class WhenCanAllSix { }");
        return project;
    }

    private static void standIn(Path project, Path test, String ending) throws IOException {
        Path place = project.resolve(test).normalize();
        Files.createDirectories(place.getParent());
        Files.writeString(place, "public final class " + test.getFileName().toString().replace(".java", "")
            + " { public static void main(String[] args) { new WhenCanAllSix();"
            + " System.out.println(\"stand-in for " + test + "\"); " + ending + " } }");
    }

    private static void oneAlone(String command) throws IOException, InterruptedException {
        Path project = Shell.newFolder();
        for (Path path : Shell.under(Path.of("src"))) {
            Files.copy(path, project.resolve(path.toString()));
        }
        Shell run = Shell.run(project, command);
        due.is("the exit code of " + command, run.exit, 0);
        due.isTrue("it runs TicksTest and tells so: " + run.printed,
            run.printed.startsWith("TicksTest: promises [18, ") && run.printed.trim().endsWith(" checks as due, 0 not"));
    }
}
