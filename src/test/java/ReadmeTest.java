import java.io.IOException;
import java.lang.reflect.Method;
import java.lang.reflect.Modifier;
import java.nio.file.Files;
import java.nio.file.Path;
import java.util.Set;
import java.util.TreeSet;
import java.util.regex.Matcher;
import java.util.regex.Pattern;

/** What README.md shows of calls and answers is what the class answers. Run from the project's directory. */
public final class ReadmeTest {
    private static final String NEW_OBJECT = "LightFlow block = new LightFlow();";
    private static final Pattern CALL = Pattern.compile("block\\.(\\w+)\\(([-0-9, ]*)\\); +// (-?\\d+): .+");

    private static int wrong = 0;

    public static void main(String[] args) throws IOException, ReflectiveOperationException {
        Set<String> shown = new TreeSet<>();
        LightFlow block = null;
        boolean inExample = false;
        for (String line : Files.readAllLines(Path.of("README.md"))) {
            if (line.startsWith("```")) {
                inExample = line.equals("```java");
            } else if (inExample && line.equals(NEW_OBJECT)) {
                block = new LightFlow();
            } else if (inExample) {
                checkCall(block, line, shown);
            }
        }
        for (Method method : LightFlow.class.getDeclaredMethods()) {
            boolean isPublic = Modifier.isPublic(method.getModifiers());
            check(!isPublic || shown.contains(method.getName()), "no example shows " + method.getName());
        }
        System.out.println(wrong == 0 ? "the examples hold" : "the examples do not hold");
        if (wrong != 0) {
            System.exit(1);
        }
    }

    private static void checkCall(LightFlow block, String line, Set<String> shown) throws ReflectiveOperationException {
        Matcher call = CALL.matcher(line);
        if (block == null || !call.matches()) {
            check(false, "not a call with its answer: " + line);
            return;
        }
        String[] words = call.group(2).isEmpty() ? new String[0] : call.group(2).split(", ");
        Class<?>[] types = new Class<?>[words.length];
        Object[] numbers = new Object[words.length];
        for (int i = 0; i < words.length; i++) {
            types[i] = int.class;
            numbers[i] = Integer.valueOf(words[i]);
        }
        Object got = LightFlow.class.getMethod(call.group(1), types).invoke(block, numbers);
        check(got.equals(Integer.valueOf(call.group(3))), "answered " + got + ": " + line);
        shown.add(call.group(1));
    }

    private static void check(boolean holds, String what) {
        if (!holds) {
            wrong++;
            System.out.println(what);
        }
    }
}
