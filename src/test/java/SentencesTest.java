import java.io.IOException;
import java.lang.reflect.Method;
import java.nio.charset.StandardCharsets;
import java.nio.file.Files;
import java.nio.file.Path;
import java.util.LinkedHashMap;
import java.util.List;
import java.util.Map;

/** The boundary tests quote ../shared/DOC.md word by word, and leave no sentence of it without a test. */
final class SentencesTest {
    private static final Path DOCUMENT = Path.of("../shared/DOC.md");
    private static final Checks CHECKS = new Checks();
    private static final List<Class<?>> TESTS = List.of(BoundaryNumbersTest.class, BoundaryEnclosuresTest.class,
        BoundaryRunsTest.class, BoundaryCallsTest.class);

    /** Headings without sentences of their own: FaceTest holds the one, the other says what is free. */
    private static final List<String> PASSED_OVER = List.of("The public face", "Not promised");

    /** What says no more than the rest: what the class is for, and the marks of two parts. */
    private static final List<String> NO_SENTENCES = List.of("Chances enclosed by boxes: spans of drawn numbers are "
        + "split where that helps most, formulas are enclosed over each box with ends put outward, boxes are sure or "
        + "open, and the odds of a question under a condition lie between two ends.", "======== 1", "======== 2");

    public static void main(String[] args) throws IOException {
        Map<String, String> parts = parts(Files.readString(DOCUMENT, StandardCharsets.UTF_8));
        CHECKS.due("parts with sentences", parts.size(), 2 + 19);
        Map<String, boolean[]> held = new LinkedHashMap<>();
        for (Map.Entry<String, String> part : parts.entrySet()) {
            held.put(part.getKey(), new boolean[part.getValue().length()]);
            for (String words : NO_SENTENCES) {
                mark(part.getValue(), words, held.get(part.getKey()));
            }
        }
        for (Class<?> tests : TESTS) {
            for (Method test : TestBase.testsOf(tests)) {
                quoted(test, parts, held);
            }
        }
        for (Map.Entry<String, String> part : parts.entrySet()) {
            String rest = unheld(part.getValue(), held.get(part.getKey()));
            CHECKS.holds(part.getKey() + ": no test holds \"" + rest + "\"", rest.isBlank());
        }
        CHECKS.end("SentencesTest");
    }

    /** The text under each heading, without marks of code and signatures, its white space evened out. */
    private static Map<String, String> parts(String document) {
        Map<String, String> found = new LinkedHashMap<>();
        String[] pieces = document.split("(?m)^## ");
        for (int i = 1; i < pieces.length; i++) {
            int end = pieces[i].indexOf('\n');
            String heading = pieces[i].substring(0, end).strip();
            String text = pieces[i].substring(end).replaceAll("```\\w*", " ").replaceAll("`[^`]*`:", " ");
            if (!PASSED_OVER.contains(heading)) {
                found.put(heading, text.replaceAll("\\s+", " ").strip());
            }
        }
        return found;
    }

    private static void quoted(Method test, Map<String, String> parts, Map<String, boolean[]> held) {
        Sentence sentence = test.getAnnotation(Sentence.class);
        String text = parts.get(sentence.of());
        CHECKS.holds(test.getName() + ": there is a heading " + sentence.of(), text != null);
        if (text != null) {
            CHECKS.holds(test.getName() + ": under " + sentence.of() + " stands \"" + sentence.says() + "\"",
                mark(text, sentence.says(), held.get(sentence.of())));
        }
    }

    /** Marks every place where the words stand by themselves, not as the end of other words. */
    private static boolean mark(String text, String words, boolean[] held) {
        boolean found = false;
        for (int at = text.indexOf(words); at >= 0; at = text.indexOf(words, at + 1)) {
            if (at == 0 || text.charAt(at - 1) == ' ' || text.charAt(at - 1) == '(') {
                found = true;
                java.util.Arrays.fill(held, at, at + words.length(), true);
            }
        }
        return found;
    }

    private static String unheld(String text, boolean[] held) {
        StringBuilder rest = new StringBuilder();
        for (int i = 0; i < held.length; i++) {
            rest.append(held[i] ? ' ' : text.charAt(i));
        }
        return rest.toString().replaceAll("\\s+", " ").strip();
    }
}
