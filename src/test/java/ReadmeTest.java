import java.io.File;
import java.io.IOException;
import java.lang.reflect.Field;
import java.lang.reflect.Method;
import java.lang.reflect.Modifier;
import java.nio.file.Files;
import java.nio.file.Path;
import java.util.ArrayList;
import java.util.List;
import java.util.regex.Matcher;
import java.util.regex.Pattern;

/** What README.md says is so when it is followed: its example, its commands, and the names that it tells. */
public final class ReadmeTest {
    private static final Checks CHECKS = new Checks("ReadmeTest");
    private static final Path ROOT = Path.of(System.getProperty("driftplans.root", "."));

    public static void main(String[] args) throws IOException, InterruptedException {
        String page = Files.readString(ROOT.resolve("README.md"));
        followTheExample(page);
        namesEveryCall(page);
        namesEveryTest(page);
        CHECKS.end();
    }

    private static void followTheExample(String page) throws IOException, InterruptedException {
        Path place = Files.createTempDirectory("readme");
        Files.copy(ROOT.resolve("src/main/java/DriftPlans.java"), place.resolve("DriftPlans.java"));
        Files.writeString(place.resolve("Example.java"), block(page, "java"));
        String printed = "";
        List<String> commands = found(page, "(?m)^ {4}(javac? .*)$");
        CHECKS.due("commands of the example", commands.size(), 2);
        for (String command : commands) {
            printed += printedBy(command, place);
        }
        CHECKS.dueText("what the example prints", printed, block(page, "text"));
        remove(place.toFile());
    }

    private static String printedBy(String command, Path place) throws IOException, InterruptedException {
        Process process = new ProcessBuilder(command.split(" ")).directory(place.toFile()).redirectErrorStream(true)
                .start();
        String printed = new String(process.getInputStream().readAllBytes()).replace("\r", "");
        CHECKS.due("the exit code of " + command, process.waitFor(), 0);
        return printed;
    }

    private static void remove(File file) {
        File[] inside = file.listFiles();
        if (inside != null) {
            for (File each : inside) {
                remove(each);
            }
        }
        CHECKS.holds(file + " is removed", file.delete());
    }

    private static void namesEveryCall(String page) {
        for (Method method : DriftPlans.class.getDeclaredMethods()) {
            if (Modifier.isPublic(method.getModifiers())) {
                names(page, method.getName());
            }
        }
        for (Field field : DriftPlans.class.getDeclaredFields()) {
            if (Modifier.isPublic(field.getModifiers())) {
                names(page, field.getName());
            }
        }
    }

    private static void namesEveryTest(String page) {
        List<String> told = found(page, "`(\\w+Test)`");
        List<String> there = new ArrayList<>();
        File[] files = ROOT.resolve("src/test/java").toFile().listFiles((dir, name) -> name.endsWith("Test.java"));
        CHECKS.holds("tests are found", files != null && files.length > 0);
        for (int place = 0; files != null && place < files.length; place++) {
            there.add(files[place].getName().replace(".java", ""));
        }
        for (String test : there) {
            CHECKS.holds(test + " is told by README.md", told.contains(test));
        }
        for (String test : told) {
            CHECKS.holds(test + ", told by README.md, is there", there.contains(test));
        }
    }

    private static void names(String page, String name) {
        CHECKS.holds("README.md tells of " + name, page.contains("`" + name + "`"));
    }

    /** The text between the fences of the only block of a kind. */
    private static String block(String page, String kind) {
        List<String> blocks = found(page, "(?s)```" + kind + "\n(.*?)```");
        CHECKS.due("blocks of " + kind, blocks.size(), 1);
        return blocks.isEmpty() ? "" : blocks.get(0);
    }

    private static List<String> found(String page, String pattern) {
        List<String> all = new ArrayList<>();
        Matcher matcher = Pattern.compile(pattern).matcher(page);
        while (matcher.find()) {
            all.add(matcher.group(1));
        }
        return all;
    }
}
