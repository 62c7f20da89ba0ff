import java.io.IOException;
import java.lang.reflect.Method;
import java.lang.reflect.Modifier;
import java.nio.file.Files;
import java.nio.file.Path;
import java.nio.file.StandardCopyOption;
import java.util.ArrayList;
import java.util.Comparator;
import java.util.List;
import java.util.Set;
import java.util.TreeSet;
import java.util.regex.Matcher;
import java.util.regex.Pattern;
import java.util.stream.Stream;

/** README.md: the example answers as it says, and the command that it names to run the tests runs them all. */
public final class ReadmeTest {
    private static final Path SHARED_TESTS = Path.of("../shared/tests");
    private static final int NO_TEST = -1;
    private static final Pattern CALL = Pattern.compile("(x\\.(\\w+)\\(.*?\\));\\s+// (answers (-?\\d+))?.*");
    private static final Pattern TEST_NAME = Pattern.compile("`(\\w+Test)`");

    /** A command that was started, and the file that has what it prints. */
    private record Running(Process process, Path output) {
        static Running start(Path dir, String... command) throws IOException {
            Path output = Files.createTempFile(dir, "printed", ".txt");
            Process process = new ProcessBuilder(command).directory(dir.toFile())
                    .redirectErrorStream(true).redirectOutput(output.toFile()).start();
            process.getOutputStream().close();
            return new Running(process, output);
        }

        int end() throws InterruptedException {
            return process.waitFor();
        }

        String printed() throws IOException {
            return Files.readString(output);
        }
    }

    /** The tests' command, started in a copy of the project with these tests, of which one may do wrong. */
    private record Trial(List<String> tests, int wrong, Does does, Running run) {}

    /** What a planted test does. */
    private enum Does {
        PASS(""), FAIL("System.exit(1);"), THROW("throw new IllegalStateException();"), NOT_COMPILE("this is no Java");

        private final String line;

        Does(String line) {
            this.line = line;
        }
    }

    public static void main(String[] args) throws IOException, InterruptedException {
        Path work = Files.createTempDirectory("readme");
        try {
            String readme = Files.readString(Path.of("README.md"));
            namesTheFaceAndTheTests(readme);
            exampleAnswersAsItSays(readme, work.resolve("example"));
            String command = block(readme, "sh").strip();
            Check.holds("the command to run the tests is one line: " + command, command.lines().count() == 1);
            commandRunsTheTests(command, work);
        } finally {
            remove(work);
        }
        Check.end();
    }

    private static void namesTheFaceAndTheTests(String readme) throws IOException {
        for (Method method : SequencePatterns.class.getDeclaredMethods()) {
            if (Modifier.isPublic(method.getModifiers())) {
                Check.holds("README.md shows " + method, readme.contains("x." + method.getName() + "("));
            }
        }
        Set<String> tests = new TreeSet<>();
        for (Path test : projectTests()) {
            tests.add(className(test));
        }
        Set<String> named = new TreeSet<>();
        TEST_NAME.matcher(readme).results().forEach(name -> named.add(name.group(1)));
        Check.holds("README.md tells of the tests " + tests + ", it names " + named, named.equals(tests));
    }

    /** Each line with a call that has an answer must say which. */
    private static void exampleAnswersAsItSays(String readme, Path dir) throws IOException, InterruptedException {
        StringBuilder body = new StringBuilder();
        for (String line : block(readme, "java").lines().toList()) {
            Matcher call = CALL.matcher(line);
            if (!call.matches()) {
                body.append(line).append('\n');
            } else if (List.of("begin", "restart").contains(call.group(2))) {
                body.append(call.group(1)).append(";\n");
            } else {
                Check.holds("README.md says what is answered: " + line, call.group(3) != null);
                body.append("Check.due(\"README.md: " + call.group(1) + "\", " + call.group(1) + ", "
                        + call.group(4) + ");\n");
            }
        }
        write(dir.resolve("ReadmeExample.java"), "final class ReadmeExample {\n"
                + "public static void main(String[] args) {\n" + body + "Check.end();\n}\n}\n");
        String classes = Path.of(System.getProperty("java.class.path")).toAbsolutePath().toString();
        String both = classes + System.getProperty("path.separator") + dir.resolve("out");
        passes("compiles", Running.start(dir, "javac", "-cp", classes, "-d", "out", "ReadmeExample.java"));
        passes("answers as it says", Running.start(dir, "java", "-cp", both, "ReadmeExample"));
    }

    private static void passes(String what, Running run) throws IOException, InterruptedException {
        int code = run.end();
        Check.holds("the example of README.md " + what + ":\n" + run.printed(), code == 0);
    }

    /** In copies of the project, each test is replaced by one that only says that it was run, or does wrong. */
    private static void commandRunsTheTests(String command, Path work) throws IOException, InterruptedException {
        List<String> all = new ArrayList<>();
        for (Path test : projectTests()) {
            all.add("main/" + test);
        }
        Path shared = SHARED_TESTS.toRealPath();
        for (Path test : javaFiles(shared)) {
            all.add("shared/tests/" + shared.relativize(test));
        }
        List<String> four = List.of("main/src/test/java/FirstTest.java", "main/src/test/java/SecondTest.java",
                "shared/tests/Third.java", "shared/tests/deeper/Fourth.java");
        // They are all started before one is waited for, to save time.
        List<Trial> trials = List.of(
                start(command, work.resolve("all"), all, NO_TEST, Does.PASS),
                start(command, work.resolve("first"), four, 0, Does.FAIL),
                start(command, work.resolve("second"), four, 1, Does.NOT_COMPILE),
                start(command, work.resolve("third"), four, 2, Does.NOT_COMPILE),
                start(command, work.resolve("fourth"), four, 3, Does.THROW));
        for (Trial trial : trials) {
            check(trial);
        }
    }

    private static Trial start(String command, Path dir, List<String> tests, int wrong, Does does)
            throws IOException {
        copyProject(dir);
        for (int n = 0; n < tests.size(); n++) {
            plant(dir, tests.get(n), n == wrong ? does : Does.PASS);
        }
        return new Trial(tests, wrong, does, Running.start(dir.resolve("main"), "sh", "-c", command));
    }

    private static void check(Trial trial) throws IOException, InterruptedException {
        int code = trial.run().end();
        String printed = trial.run().printed();
        if (trial.wrong() == NO_TEST) {
            Check.holds("all tests pass:\n" + printed, code == 0);
        } else {
            Check.holds(trial.does() + " in " + trial.tests().get(trial.wrong()) + " is told by the exit code:\n"
                    + printed, code != 0);
        }
        // What does not compile may keep others from being run.
        if (trial.does() != Does.NOT_COMPILE) {
            for (String test : trial.tests()) {
                int times = printed.split(Pattern.quote("<" + test + ">"), -1).length - 1;
                Check.due("how many times " + test + " is run", times, 1);
            }
        }
    }

    private static void copyProject(Path dir) throws IOException {
        for (String file : List.of(".ci/run", "src/main/java/SequencePatterns.java")) {
            Path to = dir.resolve("main").resolve(file);
            Files.createDirectories(to.getParent());
            Files.copy(Path.of(file), to, StandardCopyOption.COPY_ATTRIBUTES);
        }
    }

    private static void plant(Path dir, String test, Does does) throws IOException {
        write(dir.resolve(test), "public final class " + className(Path.of(test)) + " {\n"
                + "public static void main(String[] args) {\n"
                + "new SequencePatterns().begin();\n"
                + "System.out.println(\"<" + test + ">\");\n"
                + does.line + "\n}\n}\n");
    }

    /** Every file outside the program that can be started, whatever its name and directory. */
    private static List<Path> projectTests() throws IOException {
        List<Path> tests = new ArrayList<>();
        for (Path file : javaFiles(Path.of(""))) {
            if (!file.startsWith("src/main") && Files.readString(file).contains("static void main(String[] args)")) {
                tests.add(file);
            }
        }
        return tests;
    }

    private static List<Path> javaFiles(Path dir) throws IOException {
        try (Stream<Path> files = Files.walk(dir)) {
            return files.filter(file -> file.toString().endsWith(".java")).sorted().toList();
        }
    }

    private static String className(Path file) {
        return file.getFileName().toString().replace(".java", "");
    }

    /** The text of the one block of this language. */
    private static String block(String readme, String language) {
        String[] parts = readme.split("```" + language + "\n", -1);
        Check.due("blocks of " + language + " in README.md", parts.length - 1, 1);
        return parts.length == 2 ? parts[1].substring(0, parts[1].indexOf("```")) : "";
    }

    private static void write(Path file, String text) throws IOException {
        Files.createDirectories(file.getParent());
        Files.writeString(file, text);
    }

    private static void remove(Path dir) throws IOException {
        try (Stream<Path> files = Files.walk(dir)) {
            for (Path file : files.sorted(Comparator.reverseOrder()).toList()) {
                Files.delete(file);
            }
        }
    }
}
