import java.io.IOException;
import java.lang.reflect.Field;
import java.lang.reflect.Method;
import java.lang.reflect.Modifier;
import java.nio.file.Files;
import java.nio.file.Path;
import java.util.Map;
import java.util.TreeMap;
import java.util.regex.Matcher;
import java.util.regex.Pattern;

/** Makes the calls of the example in README.md, and looks whether README.md leaves out a call or a code. */
public final class ReadmeTest {
    private static final Pattern CODE = Pattern.compile("(?s)```java\n(.*?)```");
    private static final Pattern WRITTEN = Pattern.compile("for \\(char letter : \"([^\"]*)\"\\.toCharArray\\(\\)\\) \\{");
    private static final Pattern CALL = Pattern.compile("x\\.(\\w+)\\(([-\\d, ]*)\\); +// (-?\\d+|[A-Z]{3,})\\b.*");

    private static final Check check = new Check();
    private static final Map<String, Method> calls = new TreeMap<>();
    private static final Map<String, Integer> codes = new TreeMap<>();

    public static void main(String[] args) throws IOException, ReflectiveOperationException {
        learnFace();
        String readme = Files.readString(Path.of("README.md"));
        example(readme);
        names(readme);
        check.end("ReadmeTest");
    }

    private static void learnFace() throws IllegalAccessException {
        for (Method method : LeastCurves.class.getDeclaredMethods()) {
            if (Modifier.isPublic(method.getModifiers())) {
                calls.put(method.getName(), method);
            }
        }
        for (Field field : LeastCurves.class.getDeclaredFields()) {
            if (Modifier.isPublic(field.getModifiers())) {
                codes.put(field.getName(), field.getInt(null));
            }
        }
    }

    private static void example(String readme) throws ReflectiveOperationException {
        Matcher code = CODE.matcher(readme);
        if (!code.find()) {
            check.due("README.md has an example", 0, 1);
            return;
        }
        LeastCurves x = new LeastCurves();
        int made = 0;
        for (String line : code.group(1).split("\n")) {
            Matcher written = WRITTEN.matcher(line);
            Matcher call = CALL.matcher(line);
            if (written.matches()) {
                Check.write(x, written.group(1));
            } else if (call.matches()) {
                check.due("README.md's x." + call.group(1) + "(" + call.group(2) + ")",
                    answer(x, call.group(1), call.group(2)), wanted(call.group(3)));
                made++;
            } else {
                check.due("README.md's line " + line, isWithoutAnswer(line.trim()) ? 1 : 0, 1);
            }
        }
        check.due("the example makes calls", made > 0 ? 1 : 0, 1);
    }

    private static boolean isWithoutAnswer(String line) {
        return line.isEmpty() || line.equals("}") || line.equals("x.write(letter);")
            || line.equals("LeastCurves x = new LeastCurves();");
    }

    private static long answer(LeastCurves x, String name, String arguments) throws ReflectiveOperationException {
        String[] told = arguments.isEmpty() ? new String[0] : arguments.split(", ");
        Object[] given = new Object[told.length];
        for (int k = 0; k < told.length; k++) {
            given[k] = Integer.valueOf(told[k]);
        }
        Method method = calls.get(name);
        if (method == null || method.getParameterCount() != given.length) {
            throw new NoSuchMethodException("README.md calls " + name + " with " + given.length + " arguments");
        }
        return ((Number) method.invoke(x, given)).longValue();
    }

    private static long wanted(String told) throws NoSuchFieldException {
        if (!Character.isUpperCase(told.charAt(0))) {
            return Long.parseLong(told);
        }
        Integer code = codes.get(told);
        if (code == null) {
            throw new NoSuchFieldException("README.md's answer " + told);
        }
        return code;
    }

    /** Each call of the face with as many arguments as it takes, each code with its number, and how to run the tests. */
    private static void names(String readme) {
        for (Method method : calls.values()) {
            int most = method.getParameterCount();
            String arguments = most == 0 ? "" : "\\w+(, \\w+){" + (most - 1) + "}";
            has(readme, "`" + method.getName() + "\\(" + arguments + "\\)`", "the call " + method.getName());
        }
        codes.forEach((name, number) -> has(readme, "`" + name + "` \\| " + number + " \\| \\w", "the code " + name));
        has(readme, "(?m)^    sh \\.ci/run$", "how to run the tests");
    }

    private static void has(String readme, String pattern, String what) {
        check.due("README.md tells " + what, Pattern.compile(pattern).matcher(readme).find() ? 1 : 0, 1);
    }
}
