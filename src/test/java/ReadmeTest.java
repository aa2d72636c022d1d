import java.io.IOException;
import java.lang.reflect.InvocationTargetException;
import java.lang.reflect.Method;
import java.lang.reflect.Modifier;
import java.nio.file.Files;
import java.nio.file.Path;
import java.util.regex.Matcher;
import java.util.regex.Pattern;

/** The calls that README.md shows answer what it says behind them, and it names each call of the face. */
public final class ReadmeTest extends Checks {
    private static final Pattern CALL = Pattern.compile("x\\.(\\w+)\\((.*)\\); +// (\"[^\"]*\"|[^:]*)(: .*)?");

    private static Method methodOf(String name) {
        for (Method method : Bags.class.getDeclaredMethods()) {
            if (Modifier.isPublic(method.getModifiers()) && method.getName().equals(name)) {
                return method;
            }
        }
        throw new IllegalStateException("the face has no " + name);
    }

    private static Object[] argumentsOf(String told) {
        String[] words = told.isEmpty() ? new String[0] : told.split(", ");
        Object[] arguments = new Object[words.length];
        for (int i = 0; i < words.length; i++) {
            boolean isNumber = words[i].matches("-?[0-9]+");
            arguments[i] = isNumber ? (Object) Integer.valueOf(words[i]) : (Object) Boolean.valueOf(words[i]);
        }
        return arguments;
    }

    private static String answer(Bags x, Method method, Object[] arguments) throws IllegalAccessException {
        try {
            Object answer = method.invoke(x, arguments);
            return answer instanceof String ? "\"" + answer + "\"" : answer.toString();
        } catch (InvocationTargetException e) {
            return "throws " + e.getCause().getClass().getSimpleName();
        }
    }

    private static void checkCalls(String readme) throws IllegalAccessException {
        String[] lines = readme.split("```java\n")[1].split("```")[0].split("\n");
        is(lines[0], "Bags x = new Bags();");
        is(lines.length > 20, true);
        Bags x = new Bags();
        for (int i = 1; i < lines.length; i++) {
            testing("README.md, " + lines[i]);
            Matcher call = CALL.matcher(lines[i]);
            if (call.matches()) {
                is(answer(x, methodOf(call.group(1)), argumentsOf(call.group(2))), call.group(3));
            } else {
                fail("is no call with its answer");
            }
        }
    }

    private static void checkNames(String readme) {
        testing("README.md, the calls");
        String table = readme.split("The calls:")[1].split("What holds for all")[0];
        for (Method method : Bags.class.getDeclaredMethods()) {
            String name = "`" + method.getName() + "`";
            if (Modifier.isPublic(method.getModifiers()) && !table.contains(name)) {
                fail("has no " + name);
            }
        }
        Matcher named = Pattern.compile("`(\\w+)`").matcher(table);
        while (named.find()) {
            methodOf(named.group(1));
        }
    }

    public static void main(String[] arguments) throws IOException, IllegalAccessException {
        String readme = Files.readString(Path.of("README.md"));
        checkCalls(readme);
        checkNames(readme);
        report("ReadmeTest");
    }
}
