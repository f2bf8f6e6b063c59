import java.io.IOException;
import java.lang.reflect.Method;
import java.lang.reflect.Modifier;
import java.nio.file.Files;
import java.nio.file.Path;
import java.util.Arrays;
import java.util.regex.Matcher;
import java.util.regex.Pattern;

/** README.md says how to use the class: its example answers as it says, and every call and refusal is named. */
public final class ReadmeTest {
    private static final Check check = new Check("ReadmeTest");
    /** A line of the example: a call with numbers, and the answer that it says, if the call has one. */
    private static final Pattern LINE =
            Pattern.compile("^plan\\.(\\w+)\\(([-0-9, ]*)\\); +// (?:(-?\\d+): )?", Pattern.MULTILINE);

    public static void main(String[] args) throws IOException {
        // .ci/run runs the tests in the project's own directory.
        String page = Files.readString(Path.of("README.md"));
        example(page);
        names(page);
        check.end();
    }

    private static void example(String page) {
        FewChanges plan = new FewChanges();
        int lines = 0;
        for (Matcher line = LINE.matcher(page); line.find(); lines++) {
            String due = line.group(3) == null ? "nothing" : line.group(3);
            check.same(line.group().trim(), answerOf(plan, line.group(1), line.group(2)), due);
        }
        long written = page.lines().filter(line -> line.startsWith("plan.")).count();
        check.same("lines of the example", Integer.toString(lines), Long.toString(written));
        check.same("an example", Boolean.toString(lines > 0), "true");
    }

    private static String answerOf(FewChanges plan, String name, String numbers) {
        Integer[] arguments = Pattern.compile("-?\\d+").matcher(numbers).results()
                .map(found -> Integer.valueOf(found.group())).toArray(Integer[]::new);
        try {
            Class<?>[] types = new Class<?>[arguments.length];
            Arrays.fill(types, int.class);
            Object answer = FewChanges.class.getMethod(name, types).invoke(plan, (Object[]) arguments);
            return answer == null ? "nothing" : answer.toString();
        } catch (ReflectiveOperationException e) {
            return e.toString();
        }
    }

    private static void names(String page) {
        for (Method method : FewChanges.class.getDeclaredMethods()) {
            if (Modifier.isPublic(method.getModifiers())) {
                check.same(method.getName() + "() in the table of calls",
                        Boolean.toString(page.contains("\n| `" + method.getName() + "(")), "true");
                for (Class<?> refusal : method.getExceptionTypes()) {
                    check.same(refusal.getSimpleName() + " in the table of refusals",
                            Boolean.toString(page.contains("| `" + refusal.getSimpleName() + "` |")), "true");
                }
            }
        }
        check.same("how to run the tests", Boolean.toString(page.contains("\n    .ci/run\n")), "true");
    }
}
