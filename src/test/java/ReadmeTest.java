import java.io.IOException;
import java.lang.reflect.Method;
import java.net.URL;
import java.net.URLClassLoader;
import java.nio.file.DirectoryStream;
import java.nio.file.Files;
import java.nio.file.Path;
import java.util.ArrayList;
import java.util.Comparator;
import java.util.List;
import java.util.Set;
import java.util.TreeSet;
import java.util.regex.Matcher;
import java.util.regex.Pattern;
import java.util.stream.Stream;
import javax.tools.JavaCompiler;
import javax.tools.ToolProvider;

/** What README.md says is so: its calls answer as it says, and its commands run the tests. */
public final class ReadmeTest {
    private static final Pattern BLOCK = Pattern.compile("(?ms)^```(\\w+)\\n(.*?)^```$");
    private static final Pattern CALL = Pattern.compile("((?:x\\.(\\w+)|tell)\\(.*\\)); +// (-?\\d+)(?:: .*)?");
    private static final String NEW_OBJECT = "MarkedChains x = new MarkedChains();";

    /** What the page's code, once compiled, hands its answers to. */
    public interface Answers {
        void due(String call, long got, long want);
    }

    private final Check check = new Check("ReadmeTest");
    private final Set<String> called = new TreeSet<>();
    private final String page;

    private ReadmeTest(String page) {
        this.page = page;
    }

    public static void main(String[] args) throws Exception {
        ReadmeTest test = new ReadmeTest(Files.readString(Path.of("README.md")));
        test.callsAnswerAsSaid();
        test.everyCallIsShown();
        test.commandsRunTests();
        test.testsAreNamed();
        test.check.finish();
    }

    private List<String> blocks(String language) {
        List<String> found = new ArrayList<>();
        Matcher blocks = BLOCK.matcher(page);
        while (blocks.find()) {
            if (blocks.group(1).equals(language)) {
                found.add(blocks.group(2));
            }
        }
        check.holds("there are parts in " + language, !found.isEmpty());
        return found;
    }

    private void callsAnswerAsSaid() throws Exception {
        Path work = Files.createTempDirectory("readme");
        Path file = work.resolve("ReadmeUse.java");
        Files.writeString(file, program());
        JavaCompiler compiler = ToolProvider.getSystemJavaCompiler();
        int failed = compiler.run(null, null, null, "-cp", System.getProperty("java.class.path"),
                "-d", work.toString(), file.toString());
        check.due("the page's code compiles", failed, 0);
        if (failed == 0) {
            try (URLClassLoader loader = new URLClassLoader(new URL[] {work.toUri().toURL()})) {
                Method run = loader.loadClass("ReadmeUse").getMethod("run", Answers.class);
                run.invoke(null, (Answers) check::due);
            }
        }
        delete(work);
    }

    /** One class of all that the page shows: methods stay as they are, each call is asked for its answer. */
    private String program() {
        StringBuilder methods = new StringBuilder();
        StringBuilder calls = new StringBuilder();
        for (String block : blocks("java")) {
            if (block.startsWith("static ")) {
                methods.append(block);
            } else {
                block.lines().forEach(line -> calls.append(asked(line)).append('\n'));
            }
        }
        return "public final class ReadmeUse {\n" + methods
                + "public static void run(ReadmeTest.Answers answers) {\n" + calls + "}\n}\n";
    }

    private String asked(String line) {
        Matcher call = CALL.matcher(line);
        if (!call.matches()) {
            check.holds("a call with its answer: " + line, line.equals(NEW_OBJECT));
            return line;
        }
        called.add(String.valueOf(call.group(2)));
        String shown = call.group(1).replace("\"", "'");
        return "answers.due(\"" + shown + "\", " + call.group(1) + ", " + call.group(3) + "L);";
    }

    private void everyCallIsShown() {
        for (Method method : MarkedChains.class.getDeclaredMethods()) {
            boolean isPublic = java.lang.reflect.Modifier.isPublic(method.getModifiers());
            check.holds(method.getName() + "() is shown", !isPublic || called.contains(method.getName()));
        }
    }

    /** The first command is what runs this test too, so it is only looked at; the others are run. */
    private void commandsRunTests() throws Exception {
        List<String> commands = blocks("sh");
        check.holds("the first one is .ci/run", commands.get(0).equals(".ci/run\n"));
        check.holds(".ci/run can be run", Files.isExecutable(Path.of(".ci/run")));
        check.due("commands", commands.size(), 3);
        String one = outputOf(commands.get(1));
        check.holds("PromisesTest ran: " + one,
                Pattern.compile("(?m)^PromisesTest: [1-9]\\d* answers, 0 wrong$").matcher(one).find());
        String shared = outputOf(commands.get(2));
        for (String name : namesIn("../shared/tests", "*.java")) {
            check.holds(name + " ran: " + shared,
                    Pattern.compile("(?m)^\\+ java .* " + name + "$").matcher(shared).find());
        }
    }

    /** What a command prints, and, behind '+', each step of it as it is run. */
    private String outputOf(String command) throws Exception {
        String tidy = "trap 'rm -rf \"$out\"' EXIT\n" + command;
        Process process = new ProcessBuilder("sh", "-ex", "-c", tidy).redirectErrorStream(true).start();
        String output = new String(process.getInputStream().readAllBytes());
        check.due("exit of " + command, process.waitFor(), 0);
        return output;
    }

    private void testsAreNamed() throws IOException {
        Set<String> named = new TreeSet<>();
        Matcher names = Pattern.compile("`(\\w+Test)`").matcher(page);
        while (names.find()) {
            named.add(names.group(1));
        }
        Set<String> there = namesIn("src/test/java", "*Test.java");
        check.holds("the page names " + there + ": " + named, named.equals(there));
    }

    private Set<String> namesIn(String folder, String pattern) throws IOException {
        Set<String> names = new TreeSet<>();
        try (DirectoryStream<Path> files = Files.newDirectoryStream(Path.of(folder), pattern)) {
            for (Path file : files) {
                names.add(file.getFileName().toString().replace(".java", ""));
            }
        }
        check.holds("there are tests in " + folder, !names.isEmpty());
        return names;
    }

    private static void delete(Path folder) throws IOException {
        try (Stream<Path> all = Files.walk(folder)) {
            for (Path path : all.sorted(Comparator.reverseOrder()).toList()) {
                Files.delete(path);
            }
        }
    }
}
