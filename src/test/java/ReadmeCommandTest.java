import java.io.IOException;
import java.nio.file.Files;
import java.nio.file.Path;
import java.nio.file.StandardCopyOption;
import java.util.ArrayList;
import java.util.List;

/**
 * The commands of README.md: the first runs all tests that there are, and fails if one fails; the second runs one.
 * They are run in projects made for it, where stand-ins with the names of the tests tell that they were run.
 */
public final class ReadmeCommandTest {
    private static final Due due = new Due("ReadmeCommandTest");

    private static final Path OWN = Path.of("src/test/java");
    private static final Path MAIN = Path.of("src/main/java");
    private static final Path SHARED = Path.of("../shared/tests");
    private static final String MAIN_METHOD = "public static void main(String[] args)";

    private static final String PASSES = "";
    private static final String FAILS = "System.exit(1);";
    private static final String THROWS = "throw new IllegalStateException();";
    private static final String DOES_NOT_COMPILE = "no Java;";

    public static void main(String[] args) throws Exception {
        List<String> commands = Readme.blocks("sh").stream().map(String::trim).toList();
        due.is("commands in README.md", commands.size(), 2);
        allTestsRun(commands.get(0));
        oneFails(commands.get(0));
        oneAlone(commands.get(1));
        due.end();
    }

    private static List<String> namesOfTests(Path folder) throws IOException {
        List<String> names = new ArrayList<>();
        for (Path path : Shell.under(folder)) {
            if (path.toString().endsWith(".java") && Files.readString(path).contains(MAIN_METHOD)) {
                names.add(path.getFileName().toString().replace(".java", ""));
            }
        }
        return names;
    }

    private static void allTestsRun(String command) throws IOException, InterruptedException {
        List<String> own = namesOfTests(OWN);
        List<String> shared = namesOfTests(SHARED);
        due.isTrue("tests of the project are found: " + own, own.contains("ReadmeCommandTest") && own.size() > 20);
        due.isTrue("tests under ../shared/tests are found", !shared.isEmpty());
        Path project = newProject();
        for (String name : own) {
            standIn(project.resolve(OWN), name, PASSES);
        }
        for (String name : shared) {
            standIn(project.resolve(SHARED), name, PASSES);
        }
        Shell run = Shell.run(project, command);
        due.is("the exit code of " + command, run.exit, 0);
        for (String name : own) {
            due.is("runs of " + name, run.timesPrinted("own " + name), 1);
        }
        for (String name : shared) {
            due.is("runs of " + name, run.timesPrinted("shared " + name), 1);
        }
        due.is("its count of tests", run.timesPrinted(own.size() + shared.size() + " passed, 0 failed"), 1);
    }

    private static void oneFails(String command) throws IOException, InterruptedException {
        fails(command, PASSES, FAILS);
        fails(command, FAILS, PASSES);
        fails(command, THROWS, PASSES);
        fails(command, PASSES, DOES_NOT_COMPILE);
        fails(command, DOES_NOT_COMPILE, PASSES);
        Path noShared = newProject();
        standIn(noShared.resolve(OWN), "OwnTest", PASSES);
        due.isTrue("without a test under ../shared/tests it fails", Shell.run(noShared, command).exit != 0);
        Path noClass = newProject();
        standIn(noClass.resolve(OWN), "OwnTest", PASSES);
        standIn(noClass.resolve(SHARED), "SharedRuns", PASSES);
        Files.writeString(noClass.resolve(MAIN).resolve("WhenCanAllSix.java"), DOES_NOT_COMPILE);
        due.isTrue("without a class that compiles it fails", Shell.run(noClass, command).exit != 0);
    }

    /** One of two tests fails; the other is run all the same. */
    private static void fails(String command, String own, String shared) throws IOException, InterruptedException {
        Path project = newProject();
        standIn(project.resolve(OWN), "OwnTest", own);
        standIn(project.resolve(SHARED), "SharedRuns", shared);
        Shell run = Shell.run(project, command);
        String which = "one's own test " + own + ", the shared one " + shared + ": ";
        due.isTrue(which + "it fails", run.exit != 0);
        due.is(which + "its count of tests", run.timesPrinted("1 passed, 1 failed"), 1);
        due.is(which + "own failed", run.timesPrinted("FAILED: OwnTest"), own.isEmpty() ? 0 : 1);
        due.is(which + "shared failed", run.timesPrinted("FAILED: SharedRuns"), shared.isEmpty() ? 0 : 1);
    }

    /** A folder with this project's .ci/run, a class, and ../shared/tests beside it. */
    private static Path newProject() throws IOException {
        Path project = Files.createDirectory(Shell.newFolder().resolve("main"));
        Files.createDirectories(project.resolve(".ci"));
        Files.createDirectories(project.resolve(OWN));
        Files.createDirectories(project.resolve(MAIN));
        Files.createDirectories(project.resolve(SHARED).normalize());
        Files.copy(Path.of(".ci/run"), project.resolve(".ci/run"), StandardCopyOption.COPY_ATTRIBUTES);
        Files.writeString(project.resolve(MAIN).resolve("WhenCanAllSix.java"), "public final class WhenCanAllSix { }");
        return project;
    }

    private static void standIn(Path folder, String name, String ending) throws IOException {
        String side = folder.endsWith(OWN) ? "own " : "shared ";
        Files.writeString(folder.normalize().resolve(name + ".java"), "public final class " + name + " { " + MAIN_METHOD
            + " { new WhenCanAllSix(); System.out.println(\"" + side + name + "\"); " + ending + " } }");
    }

    private static void oneAlone(String command) throws IOException, InterruptedException {
        Path project = Shell.newFolder();
        for (Path path : Shell.under(Path.of("src"))) {
            Files.copy(path, project.resolve(path.toString()));
        }
        Shell run = Shell.run(project, command);
        due.is("the exit code of " + command, run.exit, 0);
        due.isTrue("it runs TicksTest and tells so: " + run.printed,
            run.printed.startsWith("TicksTest: promises [18, ") && run.printed.trim().endsWith(" checks as due, 0 not"));
    }
}
