import java.io.IOException;
import java.lang.reflect.Method;
import java.lang.reflect.Modifier;
import java.nio.charset.StandardCharsets;
import java.nio.file.Files;
import java.nio.file.Path;
import java.util.regex.Matcher;
import java.util.regex.Pattern;

/** README.md tells the truth: its example answers as it says, and each call and number is told of. Runs in the project's root. */
public final class ReadmeTest {
    private final Bench bench = new Bench("ReadmeTest");

    public static void main(String[] args) throws IOException {
        String page = Files.readString(Path.of("README.md"), StandardCharsets.UTF_8);
        ReadmeTest test = new ReadmeTest();
        test.example(page);
        test.calls(page);
        test.numbers(page);
        test.bench.end();
    }

    private void example(String page) {
        Matcher written = Pattern.compile("\"([TPR0-9]+)\"\\.toCharArray").matcher(page);
        bench.equal("a text is written", written.find() ? 1 : 0, 1);
        bench.fresh();
        bench.add(written.group(1));
        Matcher asked = Pattern.compile("(?m)^x\\.(\\w+\\(.*\\)); +// (-?\\d+)[,:]").matcher(page);
        int count = 0;
        for (; asked.find(); count++) bench.due(asked.group(1), Long.parseLong(asked.group(2)));
        bench.equal("calls of the example", count, 6);
    }

    /** Each has a line that begins with it and its parameters' count. */
    private void calls(String page) {
        for (Method m : SurpriseTax.class.getDeclaredMethods()) {
            if (!Modifier.isPublic(m.getModifiers())) continue;
            String parameters = m.getParameterCount() == 0 ? "" : "\\w+" + ", \\w+".repeat(m.getParameterCount() - 1);
            boolean told = Pattern.compile("(?m)^\\| `" + m.getName() + "\\(" + parameters + "\\)` \\|").matcher(page).find();
            bench.equal("tells of " + m.getName(), told ? 1 : 0, 1);
        }
    }

    private void numbers(String page) {
        int[] numbers = {SurpriseTax.UNKNOWN, SurpriseTax.BAD, SurpriseTax.LATE, SurpriseTax.FULL, SurpriseTax.NONE};
        String[] names = {"UNKNOWN", "BAD", "LATE", "FULL", "NONE"};
        for (int i = 0; i < names.length; i++) {
            bench.equal("tells of " + names[i], page.contains("`" + names[i] + "` " + numbers[i]) ? 1 : 0, 1);
        }
        bench.equal("tells how tests are run", page.contains("bash .ci/run") && Files.exists(Path.of(".ci/run")) ? 1 : 0, 1);
    }
}
