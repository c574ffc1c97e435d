import java.io.IOException;
import java.lang.reflect.Method;
import java.lang.reflect.Modifier;
import java.nio.charset.StandardCharsets;
import java.nio.file.DirectoryStream;
import java.nio.file.Files;
import java.nio.file.Path;

/** README.md says how to use the class and how to run its tests: its example is run here as it stands there. */
final class ReadmeTest {
    private static final Checks CHECKS = new Checks();
    private static final Path TESTS = Path.of("src/test/java");

    public static void main(String[] args) throws IOException {
        String readme = Files.readString(Path.of("README.md"), StandardCharsets.UTF_8);
        String here = Files.readString(TESTS.resolve("ReadmeTest.java"), StandardCharsets.UTF_8);
        String told = between(readme, "```java\n", "```");
        CHECKS.holds("the example is told", !told.isBlank());
        CHECKS.holds("the example is run as it is told", told.equals(between(here, "// begin\n", "        // end").indent(-8)));
        example(readme);
        calls(readme);
        tests(readme);
        CHECKS.end("ReadmeTest");
    }

    private static String between(String text, String before, String behind) {
        int from = text.indexOf(before) + before.length();
        return text.substring(from, text.indexOf(behind, from));
    }

    private static void example(String readme) {
        // begin
        BoxIntegrals x = new BoxIntegrals();
        long one = Double.doubleToLongBits(1.0);
        int u = x.draw(0L, one);                        // a number drawn from 0 to 1
        int drawn = x.node(0, u, 0, 0L);                // the formula "that number"
        int third = x.node(1, 0, 0, Double.doubleToLongBits(1.0 / 3.0));
        int above = x.node(3, drawn, third, 0L);        // the number less a third
        x.role(1, above);                               // THE QUESTION: is that above 0?
        x.begin();
        int steps = x.run(40);                          // up to 40 STEPS
        double low = Double.longBitsToDouble(x.odds(0));
        double high = Double.longBitsToDouble(x.odds(1));
        // end
        String answer = "`steps` is " + steps + ", and the odds lie from " + low + " to " + high + ".";
        CHECKS.holds("README.md says: " + answer, readme.contains(answer));
        CHECKS.holds("two thirds lie there", low <= 2.0 / 3.0 && 2.0 / 3.0 <= high);
    }

    private static void calls(String readme) {
        for (Method method : BoxIntegrals.class.getDeclaredMethods()) {
            if (Modifier.isPublic(method.getModifiers())) {
                CHECKS.holds("it tells " + method.getName(), readme.contains("`" + method.getName() + "("));
            }
        }
    }

    private static void tests(String readme) throws IOException {
        CHECKS.holds("it tells .ci/run", readme.contains("\n    .ci/run\n"));
        try (DirectoryStream<Path> files = Files.newDirectoryStream(TESTS, "*Test.java")) {
            for (Path file : files) {
                String name = file.getFileName().toString().replace(".java", "");
                CHECKS.holds("it tells " + name, readme.contains("| `" + name + "` |"));
            }
        }
    }
}
