import java.io.IOException;
import java.nio.charset.StandardCharsets;
import java.nio.file.Files;
import java.nio.file.Path;
import java.util.Set;
import java.util.regex.Matcher;
import java.util.regex.Pattern;

/** Rules of ../shared/LANGUAGE.md that can be told from the text of the class, and no more than these rules say. */
public final class LanguageTest {
    private static final Checks CHECKS = new Checks("LanguageTest");
    private static final String[][] BARRED = {
        {"a package line", "(?m)^\\s*package\\b"},
        {"rule 1: a protected member", "\\bprotected\\b"},
        {"rule 2: a lambda", "(?m)^(?!\\s*(?:case|default)\\b).*->"},
        {"rule 2: a method reference", "::"},
        {"rule 4: more of System", "\\bSystem\\.(?!arraycopy\\b)"},
        {"rule 4: a function that ends in Exact", "\\w+Exact\\b"},
        {"rule 4: more of Math", "\\bMath\\.(?!max\\b|min\\b|abs\\b|floorDiv\\b|floorMod\\b)"},
        {"rule 5: a static block", "\\bstatic\\s*\\{"},
        {"rule 6: a word", "\\b(?:finally|synchronized|assert)\\b"},
        {"rule 6: try with resources", "\\btry\\s*\\("},
        {"rule 6: a catch of what the machine throws", "\\bcatch\\s*\\([^)]*\\b(?:Exception|Throwable|\\w*Error|"
            + "NullPointerException|ClassCastException|NegativeArraySizeException|ArrayStoreException|"
            + "ArrayIndexOutOfBoundsException|StringIndexOutOfBoundsException)\\b"},
        {"rule 6: a method of Object", "\\b(?:boolean\\s+equals|int\\s+hashCode|String\\s+toString)\\s*\\("},
        {"rule 13: clocks, chances, threads, files", "\\b(?:Random|Thread|Runtime|Files?|Instant|ThreadLocal)\\b"},
    };
    private static final Set<String> IMPORTS = Set.of("java.util.ArrayList", "java.util.List", "java.util.Arrays",
            "java.util.Iterator", "java.util.NoSuchElementException", "java.util.*");
    /** "Some sixty lines". */
    private static final int MOST_LINES = 70;

    public static void main(String[] args) throws IOException {
        Path root = Path.of(System.getProperty("driftplans.root", "."));
        String source = Files.readString(root.resolve("src/main/java/DriftPlans.java"), StandardCharsets.UTF_8);
        String code = source.replaceAll("(?s)/\\*.*?\\*/", "").replaceAll("//[^\n]*", "");
        for (int place = 0; place < code.length(); place++) {
            if (code.charAt(place) > 127) {
                CHECKS.holds("rule 4: a sign at " + place, false);
            }
        }
        for (String[] barred : BARRED) {
            Matcher found = Pattern.compile(barred[1]).matcher(code);
            CHECKS.holds("the class has " + barred[0], !found.find());
        }
        Matcher imports = Pattern.compile("\\bimport ([\\w.*]+);").matcher(code);
        while (imports.find()) {
            CHECKS.holds("rule 4: import of " + imports.group(1), IMPORTS.contains(imports.group(1)));
        }
        methodsAreShort(source);
        CHECKS.end();
    }

    /** Rule 11. A method's end is told by the first closing brace under the column where it began. */
    private static void methodsAreShort(String source) {
        String[] lines = source.split("\n");
        Pattern head = Pattern.compile("( {4}| {8})[a-zA-Z][\\w<>\\[\\] ]*\\(.*\\{");
        for (int line = 0; line < lines.length; line++) {
            Matcher found = head.matcher(lines[line]);
            if (found.matches() && !lines[line].trim().matches("(for|if|while|switch|do|else)\\b.*")) {
                int end = line;
                while (end < lines.length && !lines[end].equals(found.group(1) + "}")) {
                    end++;
                }
                CHECKS.holds(lines[line].trim() + " has " + (end - line + 1) + " lines", end - line < MOST_LINES);
            }
        }
    }
}
