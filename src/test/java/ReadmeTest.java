import java.lang.reflect.InvocationTargetException;
import java.lang.reflect.Method;
import java.lang.reflect.Modifier;
import java.net.URL;
import java.net.URLClassLoader;
import java.nio.charset.StandardCharsets;
import java.nio.file.Files;
import java.nio.file.Path;
import java.util.ArrayList;
import java.util.List;
import java.util.TreeSet;
import java.util.regex.Matcher;
import java.util.regex.Pattern;
import java.util.stream.Collectors;
import java.util.stream.Stream;
import javax.tools.ToolProvider;

/**
 * What README.md says agrees with the class and with .ci/run: its calls are compiled and made, its commands are run,
 * its list of tests is the list of the tests that are there. README.md's path is the argument.
 */
public final class ReadmeTest {
    private static final Pattern BLOCK = Pattern.compile("^```(\\w+)\\n(.*?)^```$", Pattern.MULTILINE | Pattern.DOTALL);
    private static final Pattern ANSWER =
            Pattern.compile("(-?\\d+|true|false|NoSuchElementException|IllegalArgumentException)(: .+)?");
    private static final String CI = ".ci/run";

    private final String text;
    /** The calls that are shown, and what README.md says that they answer. */
    private final List<String> shown = new ArrayList<>();
    private final List<String> due = new ArrayList<>();
    private final StringBuilder members = new StringBuilder();
    private final StringBuilder body = new StringBuilder();

    private ReadmeTest(String text) {
        this.text = text;
    }

    public static void main(String[] args) throws Exception {
        Path readme = Path.of(args.length > 0 ? args[0] : "README.md");
        ReadmeTest test = new ReadmeTest(Files.readString(readme, StandardCharsets.UTF_8));
        test.readCalls();
        test.callsAnswerSo();
        test.everyCallIsShown();
        test.commandsRun();
        test.testsAreListed();
        test.closingLineIsSo();
        Check.end();
    }

    private static void holds(String what, boolean so) {
        Check.due(what, so ? 1 : 0, 1);
    }

    private List<String> blocks(String language) {
        List<String> all = new ArrayList<>();
        Matcher m = BLOCK.matcher(text);
        while (m.find()) {
            if (m.group(1).equals(language)) {
                all.add(m.group(2));
            }
        }
        return all;
    }

    // ---- the calls ----

    private void readCalls() {
        for (String block : blocks("java")) {
            if (block.contains("static int tell(")) {
                members.append(block);
            } else {
                readStatements(block);
            }
        }
        holds("calls are shown", shown.size() >= 40);
    }

    /** A statement may take some lines; the answer stands behind its end. */
    private void readStatements(String block) {
        StringBuilder open = new StringBuilder();
        for (String line : block.split("\n")) {
            String code = codeOf(line).strip();
            open.append(code);
            if (code.endsWith(";")) {
                readStatement(open.toString(), line.substring(codeOf(line).length()).strip());
                open.setLength(0);
            }
        }
        Check.due("'" + open + "' has no end", open.length(), 0);
    }

    private static String codeOf(String line) {
        Matcher m = Pattern.compile("^(?:[^\"/]|\"[^\"]*\"|/(?!/))*").matcher(line);
        return m.find() ? m.group() : "";
    }

    private void readStatement(String statement, String comment) {
        if (statement.contains("= new DeadWires()")) {
            body.append(statement).append('\n');
            return;
        }
        Matcher m = ANSWER.matcher(comment.replaceFirst("^// ", ""));
        holds(statement + " is shown without an answer: " + comment, m.matches());
        if (m.matches()) {
            String call = statement.substring(0, statement.length() - 1);
            shown.add(call);
            due.add(m.group(1));
            body.append("try { seen.add(String.valueOf(").append(call).append(")); }\n");
            body.append("catch (RuntimeException e) { seen.add(e.getClass().getSimpleName()); }\n");
        }
    }

    private void callsAnswerSo() throws Exception {
        List<?> seen = answers();
        Check.due("answers", seen.size(), due.size());
        for (int i = 0; i < Math.min(seen.size(), due.size()); i++) {
            holds(shown.get(i) + " answers " + seen.get(i) + ", README.md says " + due.get(i), seen.get(i).equals(due.get(i)));
        }
    }

    /** Compiles the calls as they stand there, and makes them. */
    private List<?> answers() throws Exception {
        Path folder = Files.createTempDirectory("readme");
        Path source = folder.resolve("Shown.java");
        Files.writeString(source, "import java.util.*;\npublic final class Shown {\n" + members
                + "public static List<String> answers() {\nList<String> seen = new ArrayList<>();\n"
                + body + "return seen;\n}\n}\n");
        int failed = ToolProvider.getSystemJavaCompiler().run(null, null, null,
                "-cp", System.getProperty("java.class.path"), "-d", folder.toString(), source.toString());
        Check.due("what README.md shows compiles", failed, 0);
        if (failed != 0) {
            return List.of();
        }
        try (URLClassLoader loader = new URLClassLoader(new URL[] {folder.toUri().toURL()})) {
            return (List<?>) loader.loadClass("Shown").getMethod("answers").invoke(null);
        } catch (InvocationTargetException e) {
            holds("the calls end by " + e.getCause(), false);
            return List.of();
        } finally {
            remove(folder);
        }
    }

    private static void remove(Path folder) throws Exception {
        List<Path> inside;
        try (Stream<Path> all = Files.walk(folder)) {
            inside = all.collect(Collectors.toList());
        }
        for (int i = inside.size() - 1; i >= 0; i--) {
            Files.delete(inside.get(i));
        }
    }

    private void everyCallIsShown() {
        for (Method method : DeadWires.class.getDeclaredMethods()) {
            if (Modifier.isPublic(method.getModifiers())) {
                String call = "wires." + method.getName() + "(";
                holds(method.getName() + " is shown", shown.stream().anyMatch(one -> one.startsWith(call)));
            }
        }
    }

    // ---- the tests ----

    /** All commands but .ci/run itself, by which this test is run. */
    private void commandsRun() throws Exception {
        int run = 0;
        for (String block : blocks("sh")) {
            if (!block.strip().equals(CI)) {
                Process process = new ProcessBuilder("sh", "-e", "-c", block).redirectErrorStream(true).start();
                String printed = new String(process.getInputStream().readAllBytes(), StandardCharsets.UTF_8);
                Check.due("the commands '" + block.strip() + "' end, with " + printed.strip(), process.waitFor(), 0);
                run++;
            }
        }
        holds("there are commands", run > 0);
        holds(CI + " is shown", blocks("sh").stream().anyMatch(block -> block.strip().equals(CI)));
        holds(CI + " can be run", Files.isExecutable(Path.of(CI)));
    }

    private void testsAreListed() throws Exception {
        TreeSet<String> listed = new TreeSet<>();
        Matcher m = Pattern.compile("^\\| (\\w+Test) \\|", Pattern.MULTILINE).matcher(text);
        while (m.find()) {
            holds(m.group(1) + " is listed once", listed.add(m.group(1)));
        }
        TreeSet<String> there;
        try (Stream<Path> files = Files.list(Path.of("src/test/java"))) {
            there = files.map(file -> file.getFileName().toString()).filter(name -> name.endsWith("Test.java"))
                    .map(name -> name.replace(".java", "")).collect(Collectors.toCollection(TreeSet::new));
        }
        holds("listed are " + listed + ", there are " + there, listed.equals(there));
    }

    private void closingLineIsSo() throws Exception {
        holds("README.md tells the closing line", text.contains("`N passed, N failed`"));
        String script = Files.readString(Path.of(CI), StandardCharsets.UTF_8);
        holds(CI + " closes so", script.contains("echo \"$passed passed, $failed failed\""));
    }
}
