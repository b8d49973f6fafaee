import java.io.IOException;
import java.lang.reflect.Field;
import java.lang.reflect.Method;
import java.lang.reflect.Modifier;
import java.nio.file.Files;
import java.nio.file.Path;
import java.util.List;
import java.util.regex.Matcher;
import java.util.regex.Pattern;

/** README.md: each line of its example answers what stands behind it; its tables have the whole face. */
final class ReadmeTest {
    private static final Pattern STEP = Pattern.compile("(x\\..*\\)); +// (-?[0-9]+): .*");

    private static final StringBuilder answered = new StringBuilder();

    public static void main(String[] args) throws IOException, IllegalAccessException {
        List<String> readme = Files.readAllLines(Path.of("README.md"));
        Checks.same("README makes the object", readme.contains("BeltLanes x = new BeltLanes(20);"), true);
        example();
        Checks.same("the example", answered.toString(), told(readme));
        hasEveryCall(readme);
        hasEveryConstant(readme);
        Checks.end();
    }

    private static void example() {
        BeltLanes x = new BeltLanes(20);
        step("x.lead(0, 1)", x.lead(0, 1));
        step("x.lead(1, BeltLanes.OPEN)", x.lead(1, BeltLanes.OPEN));
        step("x.arm(0, 0 | (2 << 2), 10, 1 << 5)", x.arm(0, 0 | (2 << 2), 10, 1 << 5));
        step("x.put(0, 3)", x.put(0, 3));
        step("x.put(0, 5)", x.put(0, 5));
        step("x.tick(4)", x.tick(4));
        step("x.place(0, 0)", x.place(0, 0));
        step("x.put(0, 5)", x.put(0, 5));
        step("x.tick(7)", x.tick(7));
        step("x.held(0)", x.held(0));
        step("x.tick(30)", x.tick(30));
        step("x.items(2)", x.items(2));
        step("x.take(2)", x.take(2));
    }

    private static void step(String call, int answer) {
        answered.append(call).append(" answers ").append(answer).append('\n');
    }

    private static String told(List<String> readme) {
        StringBuilder told = new StringBuilder();
        for (String line : readme) {
            Matcher step = STEP.matcher(line);
            if (step.matches()) {
                told.append(step.group(1)).append(" answers ").append(step.group(2)).append('\n');
            }
        }
        return told.toString();
    }

    private static void hasEveryCall(List<String> readme) {
        for (Method method : BeltLanes.class.getDeclaredMethods()) {
            if (Modifier.isPublic(method.getModifiers())) {
                hasRow(readme, "| `" + method.getName() + "(");
            }
        }
    }

    private static void hasEveryConstant(List<String> readme) throws IllegalAccessException {
        for (Field field : BeltLanes.class.getDeclaredFields()) {
            if (Modifier.isPublic(field.getModifiers())) {
                hasRow(readme, "| `" + field.getName() + "` | " + field.getInt(null) + " |");
            }
        }
    }

    private static void hasRow(List<String> readme, String start) {
        long rows = readme.stream().filter(line -> line.startsWith(start)).count();
        Checks.same("rows of README that start with " + start, rows, 1);
    }
}
