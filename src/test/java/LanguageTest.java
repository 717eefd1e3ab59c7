import java.io.IOException;
import java.nio.charset.StandardCharsets;
import java.nio.file.Files;
import java.nio.file.Path;
import java.util.regex.Matcher;
import java.util.regex.Pattern;

/** Rules of ../shared/LANGUAGE.md that can be told from the text of the class. */
public final class LanguageTest {
    private static final Checks CHECKS = new Checks("LanguageTest");
    private static final String[] BARRED = {"->", "::", "\\bthrow\\b", "\\bcatch\\b", "\\btry\\b", "\\bfinally\\b",
        "\\bsynchronized\\b", "\\bassert\\b", "\\bpackage\\b", "\\bprotected\\b", "\\bvar\\b", "\\bSystem\\.(?!arraycopy)",
        "\\bMath\\.(?!max|min)", "Exact\\b", "\\bequals\\b", "\\bhashCode\\b", "\\btoString\\b", "\\bstatic\\s*\\{",
        "@\\w+", "\\bString\\b", "\\bObject\\b", "\\bfor \\([^;)]*:", "\\bnew \\w+\\[[^\\]A-Z]"};
    private static final int MOST_LINES = 60;

    public static void main(String[] args) throws IOException {
        String source = Files.readString(Path.of(System.getProperty("driftplans.source",
                "src/main/java/DriftPlans.java")), StandardCharsets.UTF_8);
        for (int place = 0; place < source.length(); place++) {
            if (source.charAt(place) > 126) {
                CHECKS.holds("a sign at " + place, false);
            }
        }
        String code = source.replaceAll("(?s)/\\*.*?\\*/", "").replaceAll("//[^\n]*", "");
        for (String barred : BARRED) {
            Matcher found = Pattern.compile(barred).matcher(code);
            CHECKS.holds("the class has " + barred, !found.find());
        }
        Matcher imports = Pattern.compile("\\bimport ([\\w.*]+);").matcher(code);
        while (imports.find()) {
            CHECKS.holds("import of " + imports.group(1), imports.group(1).equals("java.util.ArrayList"));
        }
        methodsAreShort(source);
        CHECKS.end();
    }

    /** A method's end is told by the first closing brace under the column where it began. */
    private static void methodsAreShort(String source) {
        String[] lines = source.split("\n");
        Pattern head = Pattern.compile("( {4}| {8})[a-zA-Z][\\w<>\\[\\] ]*\\(.*\\{");
        for (int line = 0; line < lines.length; line++) {
            Matcher found = head.matcher(lines[line]);
            if (found.matches() && !lines[line].trim().matches("(for|if|while|switch|do|else)\\b.*")) {
                int end = line;
                while (end < lines.length && !lines[end].equals(found.group(1) + "}")) {
                    end++;
                }
                CHECKS.holds(lines[line].trim() + " has " + (end - line + 1) + " lines", end - line < MOST_LINES);
            }
        }
    }
}
