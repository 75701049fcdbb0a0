import java.io.IOException;
import java.lang.reflect.Method;
import java.lang.reflect.Modifier;
import java.nio.file.Files;
import java.nio.file.Path;
import java.util.regex.Matcher;
import java.util.regex.Pattern;

/** README.md: each call of its example answers what stands behind it, and no call is left out. */
public final class ReadmeTest {
    private static final Pattern EXAMPLE = Pattern.compile("(?s)```java\n(.*?)```");
    private static final Pattern CALL = Pattern.compile("(?m)^x\\.(\\w+)\\(([^)]*)\\);(?: *// (-?\\d+)\\b)?");

    private ReadmeTest() {
    }

    public static void main(String[] args) throws IOException, ReflectiveOperationException {
        String readme = Files.readString(Path.of("README.md"));
        example(readme);
        namesAllCalls(readme);
        Due.close();
    }

    private static void example(String readme) throws ReflectiveOperationException {
        Matcher block = EXAMPLE.matcher(readme);
        Due.same("there is an example", block.find(), true);
        String code = block.group(1);
        CrookedFrames x = new CrookedFrames();
        Due.write(x, code.replaceAll("(?s)^[^\"]*\"([^\"]*)\".*$", "$1"));
        int calls = 0;
        Matcher call = CALL.matcher(code);
        while (call.find()) {
            String shown = "README: " + call.group(1) + "(" + call.group(2) + ")";
            Due.same(shown + " has an answer", call.group(3) != null, true);
            Due.is(shown, ask(x, call.group(1), call.group(2)), Integer.parseInt(call.group(3)));
            calls++;
        }
        Due.same("every line of a call was tried", calls, (int) code.lines().filter(l -> l.startsWith("x.")).count());
        Due.same("there are calls", calls > 0, true);
    }

    private static int ask(CrookedFrames x, String name, String numbers) throws ReflectiveOperationException {
        String[] each = numbers.isBlank() ? new String[0] : numbers.split(", *");
        Object[] given = new Object[each.length];
        Class<?>[] types = new Class<?>[each.length];
        for (int n = 0; n < each.length; n++) {
            given[n] = Integer.valueOf(each[n]);
            types[n] = int.class;
        }
        return (int) CrookedFrames.class.getMethod(name, types).invoke(x, given);
    }

    private static void namesAllCalls(String readme) {
        for (Method m : CrookedFrames.class.getDeclaredMethods()) {
            if (Modifier.isPublic(m.getModifiers())) {
                Due.same("README names " + m.getName(), readme.contains("`" + m.getName() + "`"), true);
            }
        }
    }
}
