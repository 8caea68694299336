import java.io.IOException;
import java.lang.reflect.Method;
import java.lang.reflect.Modifier;
import java.net.URL;
import java.net.URLClassLoader;
import java.nio.file.Files;
import java.nio.file.Path;
import java.util.List;
import java.util.Set;
import java.util.TreeSet;
import java.util.regex.Matcher;
import java.util.regex.Pattern;
import java.util.stream.Stream;
import javax.tools.ToolProvider;

/**
 * README.md is so: its Java, put together to one program, compiles and gives the answers that it
 * tells; it shows each call of the face, and names each test.
 */
public final class ReadmeTest {
    /** A call of x, and behind // the answer that the page tells. */
    private static final Pattern TOLD =
            Pattern.compile("(x\\.(\\w+)\\(.*\\)); *// (NONE|true|false|\\d+): .+");

    private final StringBuilder imports = new StringBuilder();
    private final StringBuilder helpers = new StringBuilder();
    private final StringBuilder body = new StringBuilder();
    private final Set<String> shown = new TreeSet<>();

    private ReadmeTest() {
    }

    public static void main(String[] args) throws Exception {
        Path root = Path.of(args.length > 0 ? args[0] : ".");
        List<String> page = Files.readAllLines(root.resolve("README.md"));
        ReadmeTest readme = new ReadmeTest();
        readme.collect(page);
        readme.run();
        readme.showsTheFace();
        namesTheTests(String.join("\n", page), root.resolve("src/test/java"));
        Check.finish();
    }

    private void collect(List<String> page) {
        boolean isJava = false;
        boolean isHelper = false;
        for (int i = 0; i < page.size(); i++) {
            String line = page.get(i);
            if (line.startsWith("```")) {
                isJava = line.equals("```java");
                isHelper = false;
            } else if (isJava && line.startsWith("import ")) {
                imports.append(line).append('\n');
            } else if (isJava) {
                isHelper |= line.startsWith("static ");
                (isHelper ? helpers : body).append(isHelper ? line : checked(line, i + 1))
                        .append('\n');
            }
        }
    }

    /** A call whose answer is told becomes one that is looked at. */
    private String checked(String line, int number) {
        Matcher told = TOLD.matcher(line);
        if (!told.matches()) {
            Check.same("README.md " + number + " tells its answer", line.startsWith("x."), false);
            return line;
        }
        shown.add(told.group(2));
        String due = told.group(3).equals("NONE") ? "-1" : told.group(3);
        return "answers.add(\"" + number + " " + due + " \" + " + told.group(1) + ");";
    }

    private void run() throws Exception {
        Path out = Files.createTempDirectory("readme");
        Path source = out.resolve("Readme.java");
        Files.writeString(source, imports + "public final class Readme {\n" + helpers
                + "public static java.util.List<String> run() {\n"
                + "java.util.List<String> answers = new java.util.ArrayList<>();\n" + body
                + "return answers;\n}\n}\n");
        int failed = ToolProvider.getSystemJavaCompiler().run(null, null, null, "-d",
                out.toString(), "-cp", System.getProperty("java.class.path"), source.toString());
        Check.same("README.md compiles", failed, 0);
        if (failed == 0) {
            URL[] urls = {out.toUri().toURL()};
            try (URLClassLoader loader = new URLClassLoader(urls, Check.class.getClassLoader())) {
                look((List<?>) loader.loadClass("Readme").getMethod("run").invoke(null));
            }
        }
        Check.remove(out);
    }

    /** Each answer is: its line, what is due, what came. */
    private void look(List<?> answers) {
        Check.same("README.md tells answers", answers.size() >= shown.size(), true);
        for (Object answer : answers) {
            String[] parts = answer.toString().split(" ");
            Check.same("README.md " + parts[0], parts[2], parts[1]);
        }
    }

    private void showsTheFace() {
        for (Method method : LeadNames.class.getDeclaredMethods()) {
            if (Modifier.isPublic(method.getModifiers())) {
                Check.same("README.md shows " + method.getName(),
                        shown.contains(method.getName()), true);
            }
        }
    }

    private static void namesTheTests(String page, Path tests) throws IOException {
        Set<String> there = new TreeSet<>();
        try (Stream<Path> files = Files.list(tests)) {
            files.forEach(file -> there.add(file.getFileName().toString().replace(".java", "")));
        }
        for (String name : there) {
            if (name.endsWith("Test")) {
                Check.same("README.md names " + name, page.contains("`" + name + "`"), true);
            }
        }
        Matcher named = Pattern.compile("`([A-Z]\\w+(?:Test|Edges))`").matcher(page);
        while (named.find()) {
            Check.same(named.group(1) + " is there", there.contains(named.group(1)), true);
        }
    }
}
