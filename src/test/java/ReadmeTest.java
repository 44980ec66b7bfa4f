import java.io.IOException;
import java.lang.reflect.Method;
import java.lang.reflect.Modifier;
import java.nio.file.Files;
import java.nio.file.Path;
import java.util.ArrayList;
import java.util.Arrays;
import java.util.List;
import java.util.Map;
import java.util.TreeMap;
import java.util.TreeSet;
import java.util.regex.Matcher;
import java.util.regex.Pattern;
import java.util.stream.Collectors;
import java.util.stream.Stream;

/** That what README.md says is so: its examples, its tables, its commands. */
final class ReadmeTest {
    private static final Check CHECK = new Check("ReadmeTest");
    private static final Path TESTS = Path.of("src/test/java");
    private static final String CLASS = "src/main/java/CricketHay.java";
    // A call in an example, with the answer that the comment behind it tells.
    private static final Pattern TOLD =
        Pattern.compile("(\\S.*\\)); *// (-?\\d+|true|false)(: .*)?");
    private static final Pattern PROMISE = Pattern.compile("## Promise (\\d+): (.*)");
    private static final Pattern NAMED = Pattern.compile("`(\\w+)`");
    // No argument of any call can be this.
    private static final int WRONG = -7777;

    private static Readme readme;

    public static void main(String[] args) throws Exception {
        readme = new Readme(Path.of("README.md"));
        examples();
        calls();
        refusals();
        tests();
        namedFiles();
        commands();
        script();
        CHECK.end();
    }

    // ---- The examples ----

    private static void examples() throws Exception {
        StringBuilder helpers = new StringBuilder();
        StringBuilder runs = new StringBuilder();
        int answers = 0;
        for (List<String> block : readme.blocks("java")) {
            boolean helps = block.get(0).startsWith("static ");
            StringBuilder code = helps ? helpers : runs.append("{\n");
            for (String line : block) {
                Matcher told = TOLD.matcher(line);
                boolean answer = !helps && told.matches();
                answers += answer ? 1 : 0;
                CHECK.due("README: a comment tells an answer: " + line, line.contains("//"), answer);
                code.append(answer ? due(told.group(1), told.group(2)) : line).append('\n');
            }
            code.append(helps ? "\n" : "}\n");
        }
        CHECK.due("answers that examples tell", true, answers >= 20);
        runExamples(helpers.toString(), runs.toString(), answers);
    }

    private static String due(String call, String answer) {
        return "check.due(\"README: " + call.replace("\\", "\\\\").replace("\"", "\\\"") + "\", "
            + answer + ", " + call + ");";
    }

    private static void runExamples(String helpers, String runs, int answers) throws Exception {
        try (Sandbox sandbox = new Sandbox()) {
            sandbox.copy(CLASS);
            sandbox.copy("src/test/java/Check.java");
            sandbox.write(sandbox.main.resolve("Examples.java"), "final class Examples {\n" + helpers
                + "public static void main(String[] args) {\n"
                + "Check check = new Check(\"Examples\");\n" + runs + "check.end();\n}\n}\n");
            int exit = sandbox.run(sandbox.main,
                "javac -d out src/*/java/*.java Examples.java && java -cp out Examples");
            CHECK.due("the examples' run:\n" + sandbox.printed, 0, exit);
            CHECK.due("all their answers: " + sandbox.printed, true,
                sandbox.printed.contains(answers + " answers as due, 0 not"));
        }
    }

    // ---- The tables ----

    private static Map<Integer, String> promises() throws IOException {
        Map<Integer, String> promises = new TreeMap<>();
        for (String line : Files.readAllLines(Path.of("../shared/DOC.md"))) {
            Matcher promise = PROMISE.matcher(line);
            if (promise.matches()) {
                int number = Integer.parseInt(promise.group(1));
                promises.put(number, number == 1 ? "CricketHay" : promise.group(2));
            }
        }
        return promises;
    }

    private static List<String> named(String cell) {
        return NAMED.matcher(cell).results().map(found -> found.group(1))
            .collect(Collectors.toList());
    }

    /** The calls stand in the table as in the document, each once, with its promise. */
    private static void calls() throws IOException {
        Map<Integer, String> left = promises();
        CHECK.due("promises", 42, left.size());
        for (String[] row : readme.table("calls")) {
            List<String> due = new ArrayList<>();
            for (int number : Readme.numbers(row[1])) {
                due.add(left.remove(number));
            }
            CHECK.due("calls of promises " + row[1] + " are " + due, true,
                due.equals(named(row[0])));
        }
        CHECK.due("promises that the table of calls leaves out: " + left, 0, left.size());
    }

    /** What each call answers when none of its arguments can be. */
    private static void refusals() throws Exception {
        Map<String, Long> due = new TreeMap<>();
        for (String[] row : readme.table("answer")) {
            for (String name : named(row[1])) {
                due.put(name, row[0].equals("false") ? 0 : Long.parseLong(row[0]));
            }
        }
        CHECK.due("all others: NONE", CricketHay.NONE, due.getOrDefault("NONE", 0L));
        // These take no argument that can't be; the other tests have what they refuse.
        List<String> without = List.of("feed", "market", "heat", "chorus", "hour", "fits", "sure");
        CricketHay hay = Texts.of("kind k;dealer a of k song 1;dealer b of k song 2;");
        for (Method method : CricketHay.class.getDeclaredMethods()) {
            if (Modifier.isPublic(method.getModifiers()) && !without.contains(method.getName())) {
                Object[] wrong = new Object[method.getParameterCount()];
                Arrays.fill(wrong, WRONG);
                for (int i = 0; i < wrong.length; i++) {
                    wrong[i] = method.getParameterTypes()[i] == boolean.class ? true : wrong[i];
                }
                Map<String, Integer> before = State.of(hay);
                Object got = method.invoke(hay, wrong);
                CHECK.due(method.getName() + " of what can't be",
                    due.getOrDefault(method.getName(), (long) CricketHay.NONE),
                    got instanceof Boolean is ? is ? 1 : 0 : (Integer) got);
                CHECK.due(method.getName() + " of what can't be does nothing", true,
                    before.equals(State.of(hay)));
            }
        }
    }

    private static List<Path> sources(String end) throws IOException {
        try (Stream<Path> all = Files.list(TESTS)) {
            return all.filter(path -> path.toString().endsWith(end)).collect(Collectors.toList());
        }
    }

    /** Each test stands in the table, and calls what its promises promise. */
    private static void tests() throws IOException {
        TreeSet<String> left = new TreeSet<>();
        for (Path test : sources("Test.java")) {
            left.add(test.getFileName().toString().replace(".java", ""));
        }
        Map<Integer, String> promises = promises();
        for (String[] row : readme.table("test")) {
            CHECK.due("there is a test " + row[0], true, left.remove(row[0]));
            if (!row[1].equals("all")) {
                String source = sourceOf(row[0], named(row[2]));
                for (int number : Readme.numbers(row[1])) {
                    String name = promises.get(number);
                    CHECK.due(row[0] + " calls " + name, true,
                        source.contains(number == 1 ? "new CricketHay()" : "." + name + "("));
                }
            }
        }
        CHECK.due("tests that the table leaves out: " + left, 0, left.size());
    }

    /** A test's own source; of those that have parts, all parts', too. */
    private static String sourceOf(String test, List<String> parts) throws IOException {
        StringBuilder source = new StringBuilder(Files.readString(TESTS.resolve(test + ".java")));
        for (Path path : sources(parts.contains("TextEdges") ? "Edges.java" : ".java")) {
            String name = path.getFileName().toString().replace(".java", "");
            if (parts.contains("TextEdges") || parts.contains(name)) {
                source.append(Files.readString(path));
            }
        }
        return source.toString();
    }

    /** Files that the page names are there. */
    private static void namedFiles() {
        for (String name : List.of(CLASS, "../shared/DOC.md", "../shared/LANGUAGE.md",
            "../shared/tests", ".ci/run")) {
            CHECK.due("there is " + name, true, Files.exists(Path.of(name)));
        }
        for (String[] row : readme.table("test")) {
            for (String name : named(row[2])) {
                CHECK.due("there is " + name, true,
                    Files.exists(TESTS.resolve(name + ".java")));
            }
        }
        CHECK.due(".ci/run can be run", true, Files.isExecutable(Path.of(".ci/run")));
    }

    // ---- The commands ----

    private static List<String> told() {
        return readme.blocks("sh").stream().map(block -> String.join("\n", block))
            .collect(Collectors.toList());
    }

    /** The second command, word by word, and ModelTest with other numbers. */
    private static void commands() throws Exception {
        CHECK.due("commands", 2, told().size());
        CHECK.due("all tests: " + told().get(0), true, told().get(0).equals("bash .ci/run"));
        try (Sandbox sandbox = new Sandbox()) {
            sandbox.copy("src");
            int exit = sandbox.run(sandbox.main, told().get(1));
            CHECK.due(told().get(1) + ":\n" + sandbox.printed, 0, exit);
            CHECK.due("one test alone", true,
                sandbox.printed.matches("TextTest: \\d+ answers as due, 0 not\n"));
            exit = sandbox.run(sandbox.main, "java -cp out ModelTest 2 5000");
            CHECK.due("other runs:\n" + sandbox.printed, 0, exit);
        }
    }

    /** .ci/run passes with tests that pass, and fails with one that doesn't, or with none shared. */
    private static void script() throws Exception {
        try (Sandbox sandbox = new Sandbox()) {
            sandbox.copy(CLASS);
            sandbox.copy(".ci/run");
            Path own = sandbox.main.resolve(TESTS).resolve("OwnTest.java");
            Path shared = sandbox.shared.resolve("Shared.java");
            sandbox.write(own, test("OwnTest", 3));
            sandbox.write(shared, test("Shared", 3));
            scriptEnds(sandbox, true, "== OwnTest", "== shared: Shared", "2 passed, 0 failed");
            sandbox.write(own, test("OwnTest", 4));
            scriptEnds(sandbox, false, "FAILED: OwnTest", "1 passed, 1 failed");
            sandbox.write(own, "no test");
            scriptEnds(sandbox, false, "FAILED: compiling the project's own tests");
            sandbox.write(own, test("OwnTest", 3));
            sandbox.write(shared, test("Shared", 4));
            scriptEnds(sandbox, false, "FAILED: shared: Shared", "1 passed, 1 failed");
            sandbox.write(shared, "no test");
            scriptEnds(sandbox, false, "FAILED: compiling shared: Shared");
            Files.delete(shared);
            scriptEnds(sandbox, false, "no tests under ../shared/tests");
        }
    }

    /** A test that passes if a new object's cart, which is 3, is due to be so many. */
    private static String test(String name, int cart) {
        return "public final class " + name + " {\n"
            + "  public static void main(String[] args) {\n"
            + "    System.exit(new CricketHay().about(2) == " + cart + " ? 0 : 1);\n  }\n}\n";
    }

    /** The first command's script, from another folder than the project's. */
    private static void scriptEnds(Sandbox sandbox, boolean well, String... says)
        throws Exception {
        int exit = sandbox.run(sandbox.root, "bash main/.ci/run");
        CHECK.due(".ci/run passes:\n" + sandbox.printed, well, exit == 0);
        for (String line : says) {
            CHECK.due(".ci/run says " + line + ":\n" + sandbox.printed, true,
                sandbox.printed.contains(line));
        }
    }
}
