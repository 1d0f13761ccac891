import java.io.IOException;
import java.net.URL;
import java.net.URLClassLoader;
import java.nio.file.Files;
import java.nio.file.Path;
import java.util.ArrayList;
import java.util.List;
import java.util.regex.Matcher;
import java.util.regex.Pattern;
import java.util.stream.Stream;
import javax.tools.JavaCompiler;
import javax.tools.ToolProvider;

/** README.md: what it shows of calls is compiled and run, and it names every call, every constant and every test. */
public final class ReadmeTest {
    private static final Pattern SHOWN = Pattern.compile("(\\S.*\\));\\s+// (-?\\d+)(?:, ([A-Z]+))?(?:: .+)?");
    private static final Pattern CALL_OF_FACE = Pattern.compile("    public int (\\w+)\\((.*)\\);");
    private static final String NEW_OBJECT = "PartedLand x = new PartedLand();";

    private static final Due due = new Due();

    private final String readme = Files.readString(Path.of("README.md"));
    private final String doc = Files.readString(Path.of("../shared/DOC.md"));

    private final List<String> calls = new ArrayList<>();
    private final List<Integer> answers = new ArrayList<>();
    private final StringBuilder helpers = new StringBuilder();

    private ReadmeTest() throws IOException {
    }

    public static void main(String[] args) throws IOException, ReflectiveOperationException {
        ReadmeTest test = new ReadmeTest();
        test.readExamples();
        test.runExamples();
        test.namesTheFace();
        test.namesTheConstants();
        test.namesTheTests();
        due.end();
    }

    // ---- what it shows

    private void readExamples() {
        due.part("README's examples");
        Matcher block = Pattern.compile("```java\n(.*?)```", Pattern.DOTALL).matcher(readme);
        while (block.find()) {
            boolean isHelper = block.group(1).contains("static ");
            if (isHelper) helpers.append(block.group(1));
            else block.group(1).lines().filter(line -> !line.equals(NEW_OBJECT)).forEach(this::readExample);
        }
        due.holds("one object is asked all along", readme.split(Pattern.quote(NEW_OBJECT), -1).length == 2);
        due.holds("an object is used for at most 512 calls", calls.size() <= 512);
    }

    private void readExample(String line) {
        Matcher shown = SHOWN.matcher(line);
        due.holds("is no call with its answer: " + line, shown.matches());
        if (!shown.matches()) return;
        calls.add(shown.group(1));
        answers.add(Integer.valueOf(shown.group(2)));
        String name = shown.group(3);
        due.is("the constant of " + line, answers.get(answers.size() - 1), name == null ? nameless(line) : valueOf(name));
    }

    /** An answer below 0 must bear the name of its constant. */
    private int nameless(String line) {
        int answer = answers.get(answers.size() - 1);
        due.holds("does not name the constant: " + line, answer >= 0);
        return answer;
    }

    private static int valueOf(String constant) {
        try {
            return PartedLand.class.getField(constant).getInt(null);
        } catch (ReflectiveOperationException none) {
            due.holds("is no constant: " + constant, false);
            return 0;
        }
    }

    private void runExamples() throws IOException, ReflectiveOperationException {
        Path folder = Files.createDirectories(Path.of(".build", "readme"));
        Path source = Files.writeString(folder.resolve("ReadmeCode.java"), program());
        JavaCompiler compiler = ToolProvider.getSystemJavaCompiler();
        due.holds("there is no javac", compiler != null);
        if (compiler == null) return;
        String classes = System.getProperty("java.class.path");
        int failed = compiler.run(null, null, null, "-cp", classes, "-d", folder.toString(), source.toString());
        due.is("javac of the examples", failed, 0);
        if (failed != 0) return;
        try (URLClassLoader loader = new URLClassLoader(new URL[] {folder.toUri().toURL()})) {
            int[] got = (int[]) loader.loadClass("ReadmeCode").getMethod("answers").invoke(null);
            for (int i = 0; i < got.length; i++) due.is(calls.get(i), got[i], answers.get(i));
        }
    }

    private String program() {
        StringBuilder program = new StringBuilder("public final class ReadmeCode {\n").append(helpers);
        program.append("public static int[] answers() {\n").append(NEW_OBJECT).append("\nreturn new int[] {\n");
        for (String call : calls) program.append(call).append(",\n");
        return program.append("};\n}\n}\n").toString();
    }

    // ---- what it names

    private void namesTheFace() {
        due.part("README names the face");
        Matcher face = CALL_OF_FACE.matcher(doc);
        int found = 0;
        while (face.find()) {
            found++;
            String name = face.group(1);
            String call = name + "(" + face.group(2).replaceAll("\\w+ (\\w+)", "$1") + ")";
            due.holds("tells not what it answers: " + call, readme.contains("\n| `" + call + "` | "));
            due.holds("shows it not: " + call, calls.stream().anyMatch(one -> one.startsWith("x." + name + "(")));
        }
        due.is("calls of the face", found, 28);
        due.holds("tells of the constructor", readme.contains("`new PartedLand()`"));
    }

    private void namesTheConstants() {
        due.part("README names the constants");
        Matcher constants = Pattern.compile("\\b([A-Z]+) = (-\\d)").matcher(doc);
        int found = 0;
        while (constants.find()) {
            found++;
            String name = "`" + constants.group(1) + "` ";
            String value = constants.group(2);
            due.holds(name, readme.contains(name + "| " + value + " |") || readme.contains(name + "(" + value + ")"));
        }
        due.is("constants of the face", found, 5);
    }

    private void namesTheTests() throws IOException {
        due.part("README names the tests");
        try (Stream<Path> files = Files.list(Path.of("src/test/java"))) {
            List<String> tests = files.map(file -> file.getFileName().toString()).filter(n -> n.endsWith("Test.java")).toList();
            for (String test : tests) due.holds(test, readme.contains(test.replace(".java", "")));
        }
        due.holds("tells how to run them", readme.contains("```sh\n.ci/run\n```"));
    }
}
