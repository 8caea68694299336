import java.io.File;
import java.io.IOException;
import java.nio.charset.StandardCharsets;
import java.nio.file.Files;
import java.nio.file.Path;
import java.nio.file.StandardCopyOption;
import java.util.ArrayList;
import java.util.List;

/**
 * .ci/run on small projects, each with a class of no face: it ends with 0 where all is fine, with 1
 * where something fails or can't be compiled, be it the first of several.
 */
public final class RunTest {
    private static final String FACE = "public final class LeadNames { }";
    private static final String FINE = " LeadNames x = new LeadNames();";
    private static final String ENDS_WITH_1 = FINE + " System.exit(1);";
    private static final String THROWS = " throw new IllegalStateException(\"as meant\");";
    private static final int AT_ONCE = 4;
    private static final String BROKEN = " int x = ;";

    private final Path script;
    private final Path top;
    private final List<Project> projects = new ArrayList<>();

    private RunTest(Path script, Path top) {
        this.script = script;
        this.top = top;
    }

    public static void main(String[] args) throws Exception {
        Path root = Path.of(args.length > 0 ? args[0] : ".");
        Path top = Files.createTempDirectory("run");
        RunTest test = new RunTest(root.resolve(".ci/run"), top);
        test.start("all fine", "2 passed, 0 failed", 0, FACE, "ATest", FINE, "shared/Runs", FINE);
        test.start("more of each", "4 passed, 0 failed", 0, FACE, "ATest", FINE, "BTest", FINE,
                "shared/Runs", FINE, "shared/More", FINE);
        test.start("a test ends with 1", "2 passed, 1 failed", 1, FACE, "ATest", ENDS_WITH_1,
                "BTest", FINE, "shared/Runs", FINE);
        test.start("a test throws", "2 passed, 1 failed", 1, FACE, "ATest", FINE, "BTest", THROWS,
                "shared/Runs", FINE);
        test.start("a shared one ends with 1", "2 passed, 1 failed", 1, FACE, "ATest", FINE,
                "shared/More", ENDS_WITH_1, "shared/Runs", FINE);
        test.start("a shared one throws", "1 passed, 1 failed", 1, FACE, "ATest", FINE,
                "shared/Runs", THROWS);
        test.start("a shared one is no Java", "2 passed, 1 failed", 1, FACE, "ATest", FINE,
                "shared/More", BROKEN, "shared/Runs", FINE);
        test.start("a test is no Java", "0 passed, 1 failed", 1, FACE, "ATest", BROKEN,
                "BTest", FINE, "shared/Runs", FINE);
        test.start("the class is no Java", "0 passed, 1 failed", 1, "class", "ATest", FINE,
                "shared/Runs", FINE);
        test.start("no shared ones", "1 passed, 1 failed", 1, FACE, "ATest", FINE);
        for (Project project : test.projects) {
            project.look();
        }
        Check.remove(top);
        Check.finish();
    }

    /** Some run at once, as each has several compilers to wait for. */
    private void start(String about, String told, int due, String face, String... tests)
            throws IOException, InterruptedException {
        if (projects.size() >= AT_ONCE) {
            projects.get(projects.size() - AT_ONCE).process().waitFor();
        }
        Path home = top.resolve("p" + projects.size());
        Path main = home.resolve("main");
        Path copy = main.resolve(".ci/run");
        Files.createDirectories(copy.getParent());
        Files.copy(script, copy, StandardCopyOption.COPY_ATTRIBUTES);
        Check.same(".ci/run is executable", Files.isExecutable(copy), true);
        write(main.resolve("src/main/java/LeadNames.java"), face);
        for (int i = 0; i + 1 < tests.length; i += 2) {
            boolean isShared = tests[i].startsWith("shared/");
            String name = isShared ? tests[i].substring(7) : tests[i];
            Path at = home.resolve(isShared ? "shared/tests" : "main/src/test/java");
            write(at.resolve(name + ".java"), "public final class " + name
                    + " { public static void main(String[] args) {" + tests[i + 1] + " } }");
        }
        File log = home.resolve("log").toFile();
        Process process = new ProcessBuilder(copy.toAbsolutePath().toString())
                .directory(new File("/")).redirectErrorStream(true).redirectOutput(log).start();
        projects.add(new Project(about, told, due, process, log.toPath()));
    }

    private static void write(Path file, String text) throws IOException {
        Files.createDirectories(file.getParent());
        Files.writeString(file, text);
    }

    private record Project(String about, String told, int due, Process process, Path log) {
        void look() throws IOException, InterruptedException {
            Check.same(about + " ends", process.waitFor(), due);
            String[] lines = Files.readString(log, StandardCharsets.UTF_8).split("\n");
            Check.same(about, lines[lines.length - 1], told);
        }
    }
}
