import java.io.File;
import java.io.IOException;
import java.lang.reflect.Method;
import java.lang.reflect.Modifier;
import java.net.URL;
import java.net.URLClassLoader;
import java.nio.file.Files;
import java.nio.file.Path;
import java.util.ArrayList;
import java.util.List;
import java.util.TreeSet;
import java.util.regex.Matcher;
import java.util.regex.Pattern;
import javax.tools.ToolProvider;

/**
 * README.md stays true: its examples are compiled as they stand and run, each answer that a comment
 * names is compared, and the commands, files and tests that it names are there. Run it in the project's folder.
 */
public final class ReadmeTest {
    private static final Pattern BLOCK = Pattern.compile("(?ms)^```java\\n(.*?)^```$");
    // A statement, and behind it a comment that may begin with an answer.
    private static final Pattern LINE = Pattern.compile("\\s*(?:(int|long) (\\w+) = )?([^;]+);\\s*(?://\\s*(?:(-?\\d+)(?::.*)?)?(.*))?");

    /** One line of an example that names an answer. */
    private static final class Due {
        final String call;
        final long want;

        Due(String call, long want) {
            this.call = call;
            this.want = want;
        }
    }

    public static void main(String[] args) throws Exception {
        String page = Files.readString(Path.of("README.md"));
        runExamples(page);
        showsEachMethod(page);
        commandsAreThere(page);
        testsAreThere(page);
        Check.end();
    }

    private static List<String> examples(String page) {
        List<String> found = new ArrayList<>();
        Matcher m = BLOCK.matcher(page);
        while (m.find()) found.add(m.group(1));
        return found;
    }

    private static void runExamples(String page) throws Exception {
        List<String> blocks = examples(page);
        Check.due("examples that begin", blocks.size(), page.split("```java", -1).length - 1);
        Check.that("README.md has examples", !blocks.isEmpty());
        for (int i = 0; i < blocks.size(); i++) {
            String name = "ReadmeExample" + i;
            List<Due> due = new ArrayList<>();
            String source = sourceOf(name, blocks.get(i), due);
            Check.that(name + " names answers", !due.isEmpty());
            List<?> got = answers(name, source);
            if (got == null) continue;
            Check.due(name + ": answers", got.size(), due.size());
            for (int k = 0; k < due.size() && k < got.size(); k++) {
                Check.due(name + ": " + due.get(k).call, (Long) got.get(k), due.get(k).want);
            }
        }
    }

    private static String sourceOf(String name, String block, List<Due> due) {
        StringBuilder s = new StringBuilder();
        s.append("public final class ").append(name).append(" {\n  public static java.util.List<Long> answers() {\n");
        s.append("    java.util.List<Long> got = new java.util.ArrayList<>();\n");
        for (String line : block.split("\n")) {
            Matcher m = LINE.matcher(line);
            boolean read = m.matches();
            Check.that("a statement and a comment: " + line, read || line.isBlank());
            if (!read || m.group(4) == null) {
                s.append(line).append('\n');
                continue;
            }
            due.add(new Due(m.group(3), Long.parseLong(m.group(4))));
            if (m.group(2) == null) s.append("got.add((long) ").append(m.group(3)).append(");\n");
            else s.append(line).append("\ngot.add((long) ").append(m.group(2)).append(");\n");
        }
        return s.append("    return got;\n  }\n}\n").toString();
    }

    /** What the example answers; null if it can't be compiled. */
    private static List<?> answers(String name, String source) throws Exception {
        Path folder = Files.createTempDirectory("readme");
        Path file = folder.resolve(name + ".java");
        try {
            Files.writeString(file, source);
            int rc = ToolProvider.getSystemJavaCompiler().run(null, null, null, "-proc:none", "-classpath",
                System.getProperty("java.class.path"), "-d", folder.toString(), file.toString());
            Check.due("javac of " + name, rc, 0);
            if (rc != 0) return null;
            try (URLClassLoader loader = new URLClassLoader(new URL[] {folder.toUri().toURL()},
                ReadmeTest.class.getClassLoader())) {
                return (List<?>) loader.loadClass(name).getMethod("answers").invoke(null);
            }
        } finally {
            remove(folder);
        }
    }

    private static void remove(Path folder) throws IOException {
        File[] files = folder.toFile().listFiles();
        for (File f : files == null ? new File[0] : files) Files.delete(f.toPath());
        Files.delete(folder);
    }

    private static void showsEachMethod(String page) {
        String all = String.join("\n", examples(page));
        for (Method m : ChainLetters.class.getDeclaredMethods()) {
            if (!Modifier.isPublic(m.getModifiers())) continue;
            Check.that("an example shows " + m.getName(), all.contains("." + m.getName() + "("));
        }
    }

    private static void commandsAreThere(String page) {
        Check.that("README.md names the command that runs the tests", page.contains("\n    .ci/run\n"));
        Check.that(".ci/run can be run", new File(".ci/run").canExecute());
        Check.that("README.md names the command that compiles the class",
            page.contains("`javac -d out src/main/java/ChainLetters.java`"));
        Check.that("the class is there", new File("src/main/java/ChainLetters.java").isFile());
        for (String path : new String[] {"../shared/DOC.md", "../shared/LANGUAGE.md", "../shared/tests"}) {
            Check.that("README.md names " + path, page.contains("`" + path + "`"));
            Check.that(path + " is there", new File(path).exists());
        }
    }

    private static void testsAreThere(String page) {
        TreeSet<String> there = new TreeSet<>();
        String[] files = new File("src/test/java").list();
        for (String file : files == null ? new String[0] : files) {
            if (file.endsWith("Test.java")) there.add(file.replace(".java", ""));
        }
        TreeSet<String> told = new TreeSet<>();
        Matcher m = Pattern.compile("(?m)^\\| `(\\w+)` \\|").matcher(page);
        while (m.find()) told.add(m.group(1));
        Check.that("README.md tells of the tests " + there + ", not of " + told, told.equals(there));
    }
}
