import java.io.IOException;
import java.nio.file.Files;
import java.nio.file.Path;
import java.util.regex.Matcher;
import java.util.regex.Pattern;

/** README.md: the calls of its example answer what it says, and each call of the class is named there. */
public final class ReadmeTest {
    private static final Due due = new Due();
    private static final Pattern CALL = Pattern.compile("^x\\.(\\w+)\\((.*)\\);\\s+// (-?\\d+)", Pattern.MULTILINE);

    private static long[] numbers(String given) {
        String[] each = given.split(", ");
        long[] numbers = new long[given.isEmpty() ? 0 : each.length];
        for (int i = 0; i < numbers.length; i++) {
            numbers[i] = Long.decode(each[i]);
        }
        return numbers;
    }

    public static void main(String[] args) throws IOException {
        String readme = Files.readString(Path.of("README.md"));
        LipsThatFit x = new LipsThatFit();
        int calls = 0;
        due.promise("the example");
        for (Matcher call = CALL.matcher(readme); call.find(); calls++) {
            due.due(call.group(1) + "(" + call.group(2) + ")",
                    Face.call(x, call.group(1), numbers(call.group(2))), Long.parseLong(call.group(3)));
        }
        due.due("calls, and lines that begin as one", calls, readme.split("\nx\\.").length - 1);
        due.due("calls were found", calls > 0 ? 1 : 0, 1);
        due.promise("the calls by name");
        for (String name : Face.CALLS.keySet()) {
            due.due("is there `" + name + "`", readme.contains("`" + name + "`") ? 1 : 0, 1);
        }
        due.promise("the tests by name");
        try (var files = Files.list(Path.of("src/test/java"))) {
            for (Path file : files.toList()) {
                String name = file.getFileName().toString().replace(".java", "");
                due.due("is there `" + name + "`", readme.contains("`" + name + "`") ? 1 : 0, 1);
            }
        }
        due.end();
    }
}
