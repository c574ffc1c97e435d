import java.io.IOException;
import java.nio.charset.StandardCharsets;
import java.nio.file.Files;
import java.nio.file.Path;
import java.util.HashMap;
import java.util.Map;
import java.util.Set;
import java.util.TreeSet;
import java.util.regex.Matcher;
import java.util.regex.Pattern;

/** Rules of LANGUAGE.md that can be seen in the text of the class: words, library calls, objects made, lengths. */
final class LanguageTest {
    private static final Checks CHECKS = new Checks();
    private static final Path FILE = Path.of("src/main/java/BoxIntegrals.java");
    private static final int LONGEST_METHOD = 60;
    private static final int DEEPEST_CALL = 8;
    private static final int NO_END = 1000;
    private static final Pattern CLASS = Pattern.compile("^ *[\\w ]*\\bclass (\\w+) \\{$");
    private static final Pattern HEAD = Pattern.compile("^( {4}| {8})[\\w\\[\\] ]*?\\b(\\w+)\\(.*\\{$");
    private static final Pattern CALL = Pattern.compile("(?:\\b(\\w+)\\.)?\\b(\\w+)\\(");
    private static final Set<String> LIBRARY = Set.of("Math.max", "Long.numberOfLeadingZeros");
    private static final String[] FORBIDDEN = {"double", "float", "try", "catch", "finally", "import", "package",
        "synchronized", "assert", "while", "Double", "Float", "Object", "String", "System", "protected", "strictfp"};

    public static void main(String[] args) throws IOException {
        String text = Files.readString(FILE, StandardCharsets.UTF_8);
        CHECKS.holds("only signs from 1 to 127", text.chars().allMatch(sign -> sign > 0 && sign < 128));
        String code = text.replaceAll("(?s)/\\*.*?\\*/", "").replaceAll("//[^\n]*", "");
        for (String word : FORBIDDEN) {
            CHECKS.holds("no " + word, !Pattern.compile("\\b" + word + "\\b").matcher(code).find());
        }
        CHECKS.holds("no lambda", !code.contains("->"));
        CHECKS.holds("no method reference", !code.contains("::"));
        library(code);
        madeAndThrown(code);
        lengths(text);
        depths(code);
        CHECKS.end("LanguageTest");
    }

    private static void library(String code) {
        Matcher calls = Pattern.compile("\\b(Math|Long|Integer|Short|Byte|Character|Boolean|Arrays)\\.\\w+").matcher(code);
        while (calls.find()) {
            CHECKS.holds(calls.group() + " is of the library", LIBRARY.contains(calls.group()));
        }
    }

    /** Objects come from the constructors alone, so that no run of calls fills the room. */
    private static void madeAndThrown(String code) {
        String lines = "";
        for (String line : code.split("\n")) {
            if (line.contains("new ") && !line.contains("throw new ")) {
                String made = line.strip();
                boolean isFieldOfConstructor = made.matches("\\w+ = new [\\w\\[\\] *(){},]+;");
                CHECKS.holds("made in a constructor: " + made, isFieldOfConstructor);
                lines += made;
            }
        }
        CHECKS.holds("something is made", !lines.isEmpty());
        Matcher thrown = Pattern.compile("throw new (\\w+)\\(\\)").matcher(code);
        int found = 0;
        while (thrown.find()) {
            found++;
            CHECKS.holds(thrown.group(), Set.of("ArrayIndexOutOfBoundsException", "ArithmeticException").contains(thrown.group(1)));
        }
        CHECKS.due("throws", found, code.split("\\bthrow\\b", -1).length - 1);
    }

    private static void lengths(String text) {
        String[] lines = text.split("\n");
        int begun = -1;
        String indent = "";
        for (int i = 0; i < lines.length; i++) {
            Matcher head = Pattern.compile("^( {4}| {8})(\\w[\\w\\[\\] ]*)\\(.*\\{$").matcher(lines[i]);
            if (begun < 0 && head.find() && !lines[i].contains(" class ")) {
                begun = i;
                indent = head.group(1);
            } else if (begun >= 0 && lines[i].equals(indent + "}")) {
                CHECKS.holds(lines[begun].strip() + " is short", i - begun + 1 <= LONGEST_METHOD);
                begun = -1;
            }
        }
    }

    /** Rule 11: calls that stand open at once, from one of the face down; a way round would have no end. */
    private static void depths(String code) {
        Map<String, Set<String>> calls = callsByMethod(code);
        CHECKS.holds("methods are found", calls.size() > 80 && calls.containsKey("Reals.packed"));
        for (String method : calls.keySet()) {
            int deep = depth(method, calls, 0);
            CHECKS.holds(method + " goes " + deep + " deep", deep <= DEEPEST_CALL);
        }
        CHECKS.holds("the deepest is found", depth("BoxIntegrals.run", calls, 0) > 5);
    }

    private static Map<String, Set<String>> callsByMethod(String code) {
        Map<String, Set<String>> found = new HashMap<>();
        String type = "";
        String method = "";
        for (String line : code.split("\n")) {
            Matcher begun = CLASS.matcher(line);
            Matcher head = HEAD.matcher(line);
            if (begun.find()) {
                type = begun.group(1);
            } else if (head.find() && !head.group(2).matches("if|for|switch")) {
                method = type + "." + head.group(2);
                found.put(method, new TreeSet<>());
            } else if (found.containsKey(method)) {
                Matcher call = CALL.matcher(line);
                while (call.find()) {
                    found.get(method).add(owner(call.group(1), type) + "." + call.group(2));
                }
            }
        }
        return found;
    }

    private static String owner(String before, String type) {
        return before == null ? type : before.substring(0, 1).toUpperCase() + before.substring(1);
    }

    /** How many calls stand open at once; what is not of the class (a call of the library, a word) ends there. */
    private static int depth(String method, Map<String, Set<String>> calls, int above) {
        if (!calls.containsKey(method)) {
            return method.matches("(Math|Long)\\.\\w+") ? 1 : 0;
        }
        if (above > DEEPEST_CALL + 2) {
            return NO_END;
        }
        int deepest = 0;
        for (String called : calls.get(method)) {
            deepest = Math.max(deepest, depth(called, calls, above + 1));
        }
        return deepest + 1;
    }
}
