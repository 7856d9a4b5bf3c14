import java.io.IOException;
import java.lang.reflect.Method;
import java.lang.reflect.Modifier;
import java.nio.file.Files;
import java.nio.file.Path;
import java.util.Set;
import java.util.TreeSet;
import java.util.regex.Matcher;
import java.util.regex.Pattern;

/** Makes the calls of the examples in README.md: each has to answer what the comment behind it begins with. */
public final class ReadmeTest {
    private static final Due DUE = new Due("ReadmeTest");
    private static final Path README = Path.of("README.md");
    private static final Pattern MAKING = Pattern.compile("RouteProofs x = new RouteProofs\\(\\);.*");
    private static final Pattern CALL = Pattern.compile("x\\.(\\w+)\\((.*)\\); +// (-?\\w+).*");

    private final Set<String> called = new TreeSet<>();
    private RouteProofs x = new RouteProofs();

    private ReadmeTest() {
    }

    public static void main(String[] args) throws IOException, ReflectiveOperationException {
        String text = Files.readString(README);
        ReadmeTest test = new ReadmeTest();
        boolean inExample = false;
        for (String line : text.split("\n")) {
            if (line.startsWith("```")) {
                inExample = line.equals("```java");
            } else if (inExample) {
                test.carryOut(line);
            }
        }
        DUE.holds("there are examples", test.called.size() > 20);
        for (Method method : RouteProofs.class.getDeclaredMethods()) {
            if (Modifier.isPublic(method.getModifiers())) {
                DUE.holds(method.getName() + " is named", text.contains("`" + method.getName() + "`"));
            }
        }
        DUE.end();
    }

    private void carryOut(String line) throws ReflectiveOperationException {
        Matcher call = CALL.matcher(line);
        if (MAKING.matcher(line).matches()) {
            x = new RouteProofs();
        } else if (call.matches()) {
            String name = call.group(1);
            String[] words = call.group(2).isEmpty() ? new String[0] : call.group(2).split(", ");
            called.add(name);
            DUE.same(line.substring(0, call.end(2) + 1), answer(name, words), value(call.group(3)));
        } else {
            DUE.holds("understood: " + line, false);
        }
    }

    private long answer(String name, String[] words) throws ReflectiveOperationException {
        for (Method method : RouteProofs.class.getDeclaredMethods()) {
            if (method.getName().equals(name) && method.getParameterCount() == words.length) {
                Object[] arguments = new Object[words.length];
                for (int index = 0; index < words.length; index++) {
                    boolean whole = method.getParameterTypes()[index] == long.class;
                    long value = value(words[index]);
                    arguments[index] = whole ? (Object) value : (Object) (int) value;
                }
                return ((Number) method.invoke(x, arguments)).longValue();
            }
        }
        throw new NoSuchMethodException(name + " with " + words.length + " parameters");
    }

    /** A number, or the constant with a name. */
    private static long value(String word) throws ReflectiveOperationException {
        String plain = word.replace("RouteProofs.", "");
        if (Character.isUpperCase(plain.charAt(0))) {
            return RouteProofs.class.getField(plain).getLong(null);
        }
        return Long.decode(plain.replace("L", ""));
    }
}
