import java.io.IOException;
import java.nio.file.Files;
import java.nio.file.Path;
import java.util.TreeSet;
import java.util.regex.Matcher;
import java.util.regex.Pattern;

/** What README.md says holds: its example answers what stands there, it names every method and every test. */
public final class ReadmeTest {
    private static final Pattern CALL = Pattern.compile("frame\\.(\\w+)\\(([-0-9, ]*)\\);(?: *// (-?\\d+))?");
    private static final Pattern METHOD = Pattern.compile("`(\\w+)\\(([a-z, ]*)\\)`");

    public static void main(String[] args) throws IOException {
        String readme = Files.readString(Path.of("README.md"));
        playExample(readme);
        checkMethods(readme);
        checkTests(readme);
        Check.end("ReadmeTest");
    }

    private static void playExample(String readme) {
        FrameCollapse frame = new FrameCollapse();
        int told = 0;
        for (Matcher call = CALL.matcher(readme); call.find();) {
            int method = Calls.named(call.group(1));
            int[] a = numbers(call.group(2));
            Check.due("arguments of " + call.group(), a.length, Calls.ARGUMENTS[method]);
            long got = Calls.send(frame, method, a);
            if (call.group(3) != null) {
                told++;
                Check.due(call.group(), got, Long.parseLong(call.group(3)));
            }
        }
        Check.due("answers told in the example", told >= 10 ? 1 : 0, 1);
    }

    private static int[] numbers(String text) {
        String[] parts = text.split(", ");
        int[] numbers = new int[parts.length];
        for (int k = 0; k < parts.length; k++) {
            numbers[k] = Integer.parseInt(parts[k]);
        }
        return numbers;
    }

    private static void checkMethods(String readme) {
        TreeSet<String> named = new TreeSet<>();
        for (Matcher method = METHOD.matcher(readme); method.find();) {
            int number = Calls.named(method.group(1));
            Check.due(method.group() + " is a method", number >= 0 ? 1 : 0, 1);
            if (number >= 0) {
                named.add(method.group(1));
                Check.due(method.group(), method.group(2).split(", ").length, Calls.ARGUMENTS[number]);
            }
        }
        Check.due("methods named: " + named, named.size(), Calls.NAMES.length);
    }

    private static void checkTests(String readme) throws IOException {
        try (var files = Files.newDirectoryStream(Path.of("src/test/java"), "*Test.java")) {
            for (Path file : files) {
                String name = file.getFileName().toString().replace(".java", "");
                Check.due("README.md names " + name, readme.contains("`" + name + "`") ? 1 : 0, 1);
            }
        }
    }
}
