import java.io.IOException;
import java.lang.reflect.Method;
import java.lang.reflect.Modifier;
import java.net.URL;
import java.net.URLClassLoader;
import java.nio.file.Files;
import java.nio.file.Path;
import java.nio.file.attribute.PosixFilePermission;
import java.util.ArrayList;
import java.util.Comparator;
import java.util.List;
import java.util.Set;
import java.util.TreeSet;
import java.util.regex.Matcher;
import java.util.regex.Pattern;
import java.util.stream.Collectors;
import java.util.stream.Stream;
import javax.tools.ToolProvider;

/**
 * README.md is true: its calls are compiled as they stand there, made one after the other and answer
 * what is said behind them, and its command is the one that runs the tests.
 */
public final class ReadmeTest {
    private static final Path README = Path.of("README.md");
    private static final Path TESTS = Path.of("src/test/java");
    /** .ci/run says here by which file it was started. */
    private static final String STARTED_BY = "started.by";
    private static final String MADE = "StateSearcher x = new StateSearcher();";
    private static final Pattern CALL =
        Pattern.compile("(?:(?:int|boolean) (\\w+) = )?(x\\.(\\w+)\\([^()]*\\));\\s+// (-?\\w+): \\S.*");
    private static final Pattern CONSTANT = Pattern.compile("`(\\w+)`(?: \\([^()]*\\))? is (-\\d+)");
    private static final Pattern NAMED_TEST = Pattern.compile("`(\\w+Test)`");
    private static final Checker CHECK = new Checker();

    public static void main(String[] args) throws Exception {
        String text = Files.readString(README);
        answers(blocks(text, "java"));
        constants(text);
        command(blocks(text, "sh"));
        tests(text);
        CHECK.end("ReadmeTest");
    }

    /** The lines between ```kind and ```, of all such blocks together, as one run of calls. */
    private static List<String> blocks(String text, String kind) {
        List<String> found = new ArrayList<>();
        boolean inside = false;
        for (String line : text.split("\n")) {
            if (line.startsWith("```")) {
                inside = line.equals("```" + kind);
            } else if (inside && !line.isBlank()) {
                found.add(line);
            }
        }
        return found;
    }

    private static void answers(List<String> lines) throws Exception {
        List<String> body = new ArrayList<>();
        List<Matcher> calls = new ArrayList<>();
        Set<String> shown = new TreeSet<>();
        for (String line : lines) {
            Matcher call = CALL.matcher(line);
            boolean isCall = call.matches();
            CHECK.due("\"" + line + "\" is a call with its answer", isCall || line.equals(MADE), true);
            if (isCall) {
                calls.add(call);
                shown.add(call.group(3));
                body.add(call.group(1) == null ? "answers.add(" + call.group(2) + ");"
                    : line + "\nanswers.add(" + call.group(1) + ");");
            } else {
                body.add(line);
            }
        }
        List<?> got = answersOf(body);
        CHECK.due("calls that were made", got.size(), calls.size());
        for (int i = 0; i < got.size(); i++) {
            String said = meant(calls.get(i).group(4));
            CHECK.due("as README.md says, " + calls.get(i).group(2), String.valueOf(got.get(i)), said);
        }
        CHECK.due("methods that README.md shows", shown.toString(), methods().toString());
    }

    private static String meant(String said) throws ReflectiveOperationException {
        boolean isConstant = said.matches("[A-Z]+");
        return isConstant ? String.valueOf(StateSearcher.class.getField(said).get(null)) : said;
    }

    private static Set<String> methods() {
        return Stream.of(StateSearcher.class.getDeclaredMethods())
            .filter(method -> Modifier.isPublic(method.getModifiers()))
            .map(Method::getName).collect(Collectors.toCollection(TreeSet::new));
    }

    private static List<?> answersOf(List<String> body) throws Exception {
        Path folder = Files.createTempDirectory("readme");
        try {
            Path file = folder.resolve("ReadmeCalls.java");
            Files.writeString(file, "public final class ReadmeCalls {\n"
                + "public static java.util.List<Object> answers() {\n"
                + "java.util.List<Object> answers = new java.util.ArrayList<>();\n"
                + String.join("\n", body) + "\nreturn answers;\n}\n}\n");
            int status = ToolProvider.getSystemJavaCompiler().run(null, null, null, "--release", "17",
                "-cp", System.getProperty("java.class.path"), "-d", folder.toString(), file.toString());
            CHECK.due("compiling the calls of README.md", status, 0);
            if (status != 0) {
                return List.of();
            }
            try (URLClassLoader loader = new URLClassLoader(new URL[] {folder.toUri().toURL()})) {
                return (List<?>) loader.loadClass("ReadmeCalls").getMethod("answers").invoke(null);
            }
        } finally {
            remove(folder);
        }
    }

    private static void remove(Path folder) throws IOException {
        List<Path> paths;
        try (Stream<Path> walk = Files.walk(folder)) {
            paths = walk.sorted(Comparator.reverseOrder()).collect(Collectors.toList());
        }
        for (Path path : paths) {
            Files.delete(path);
        }
    }

    private static void constants(String text) throws ReflectiveOperationException {
        Matcher constant = CONSTANT.matcher(text);
        Set<String> told = new TreeSet<>();
        while (constant.find()) {
            told.add(constant.group(1));
            CHECK.due("as README.md says, " + constant.group(1), meant(constant.group(1)), constant.group(2));
        }
        CHECK.due("constants that README.md tells", told.toString(), "[BAD, FULL, NONE]");
    }

    private static void command(List<String> lines) throws IOException {
        CHECK.due("commands in README.md " + lines, lines.size(), 1);
        String named = lines.isEmpty() ? "" : lines.get(0);
        String startedBy = System.getProperty(STARTED_BY, "nothing that says so");
        CHECK.due("what runs the tests, by README.md,", named, startedBy);
        Path script = Path.of(named);
        boolean executable = Files.isRegularFile(script)
            && Files.getPosixFilePermissions(script).contains(PosixFilePermission.OWNER_EXECUTE);
        CHECK.due(named + " can be run as it stands", executable, true);
    }

    private static void tests(String text) throws IOException {
        Set<String> named = new TreeSet<>();
        Matcher test = NAMED_TEST.matcher(text);
        while (test.find()) {
            named.add(test.group(1));
        }
        Set<String> there;
        try (Stream<Path> files = Files.list(TESTS)) {
            there = files.map(file -> file.getFileName().toString()).filter(name -> name.endsWith("Test.java"))
                .map(name -> name.replace(".java", "")).collect(Collectors.toCollection(TreeSet::new));
        }
        CHECK.due("tests that README.md names", named.toString(), there.toString());
    }
}
