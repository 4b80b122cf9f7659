import java.io.File;
import java.io.IOException;
import java.nio.charset.StandardCharsets;
import java.nio.file.Files;
import java.nio.file.Path;
import java.util.ArrayList;
import java.util.Arrays;
import java.util.List;
import java.util.TreeSet;
import java.util.regex.Matcher;
import java.util.regex.Pattern;

/** What README.md says works as it is written there. */
public final class ReadmeTest {
    private final String readme;

    private ReadmeTest(String readme) {
        this.readme = readme;
    }

    public static void main(String[] args) throws IOException, InterruptedException {
        ReadmeTest test = new ReadmeTest(Files.readString(Path.of("README.md")));
        test.example();
        test.testsByThemselves();
        test.namesOfTests();
        test.namesOfCalls();
        Due.end();
    }

    private List<String> blocks(String kind) {
        List<String> found = new ArrayList<>();
        Matcher matcher = Pattern.compile("(?s)```" + kind + "\n(.*?)```").matcher(readme);
        while (matcher.find()) {
            found.add(matcher.group(1));
        }
        return found;
    }

    private String block(String kind, String part) {
        for (String block : blocks(kind)) {
            if (block.contains(part)) {
                return block;
            }
        }
        Due.holds("README.md has " + kind + " with " + part, false);
        return "exit 1";
    }

    private void example() throws IOException, InterruptedException {
        Due.holds("the example is Example.java",
            block("java", "class Example").equals(Files.readString(Path.of("src/test/java/Example.java"))));
        Due.holds("the example prints what is written",
            carriedOut(block("sh", "Example")).equals(block("text", "its number")));
    }

    private void testsByThemselves() throws IOException, InterruptedException {
        String told = carriedOut(block("sh", "PromiseTest"));
        Due.holds("one test by itself, which told " + told, told.endsWith(" answers, 0 wrong\n"));
        Due.holds(".ci/run is named", blocks("sh").contains(".ci/run\n"));
        Due.holds(".ci/run can be run", Files.isExecutable(Path.of(".ci/run")));
    }

    private void namesOfTests() {
        TreeSet<String> tests = new TreeSet<>();
        for (File file : new File("src/test/java").listFiles()) {
            if (file.getName().endsWith("Test.java")) {
                tests.add(file.getName().replace(".java", ""));
            }
        }
        TreeSet<String> named = new TreeSet<>();
        Matcher matcher = Pattern.compile("(?m)^- `(\\w+)`:").matcher(readme);
        while (matcher.find()) {
            named.add(matcher.group(1));
        }
        Due.holds("the tests that are named are those that there are: " + tests, named.equals(tests));
    }

    private void namesOfCalls() {
        TreeSet<String> calls = new TreeSet<>();
        Arrays.stream(CassetteTones.class.getMethods())
            .filter(method -> method.getDeclaringClass() == CassetteTones.class)
            .forEach(method -> calls.add(method.getName()));
        for (String call : calls) {
            Due.holds(call + "() is named", readme.contains("`" + call + "("));
        }
        Due.holds("calls were found", !calls.isEmpty());
    }

    private static String carriedOut(String commands) throws IOException, InterruptedException {
        Process process = new ProcessBuilder("sh", "-e", "-c", commands)
            .redirectError(ProcessBuilder.Redirect.INHERIT).start();
        process.getOutputStream().close();
        String told = new String(process.getInputStream().readAllBytes(), StandardCharsets.UTF_8);
        Due.is("the end of " + commands.trim(), process.waitFor(), 0);
        return told;
    }
}
