import java.io.IOException;
import java.lang.reflect.InvocationTargetException;
import java.lang.reflect.Method;
import java.nio.file.Files;
import java.nio.file.Path;
import java.util.Set;
import java.util.TreeSet;
import java.util.regex.Matcher;
import java.util.regex.Pattern;

/** Makes the calls that README.md shows, one behind the other on one cock, and compares what they answer. */
public final class ReadmeTest extends Kit {
    private static final Pattern TOLD = Pattern.compile("tell\\(cock, \"([^\"]*)\"\\);");
    private static final Pattern CALL = Pattern.compile("cock\\.(\\w+)\\(([^)]*)\\); +// (-?\\w+)(:.*)?");

    private final LiarsCock cock = new LiarsCock();
    private final Set<String> shown = new TreeSet<>();

    public static void main(String[] args) throws IOException {
        ReadmeTest test = new ReadmeTest();
        for (String line : Files.readAllLines(Path.of("README.md"))) {
            test.follow(line);
        }
        test.showsEachCall();
        end();
    }

    private void follow(String line) {
        Matcher told = TOLD.matcher(line);
        Matcher call = CALL.matcher(line);
        if (told.matches()) {
            feed(cock, told.group(1));
            shown.add("feed");
        } else if (call.matches()) {
            shown.add(call.group(1));
            due(line + " answers as README.md says", answer(call.group(1), call.group(2)).equals(call.group(3)), true);
        } else {
            due("'" + line + "' has no call that is not made", line.startsWith("cock."), false);
        }
    }

    private String answer(String name, String values) {
        Method method = named(name);
        Class<?>[] types = method.getParameterTypes();
        String[] told = values.isEmpty() ? new String[0] : values.split(", ");
        Object[] given = new Object[types.length];
        for (int i = 0; i < types.length; i++) {
            given[i] = types[i] == boolean.class ? (Object) Boolean.valueOf(told[i]) : Integer.valueOf(told[i]);
        }
        try {
            return String.valueOf(method.invoke(cock, given));
        } catch (InvocationTargetException e) {
            return e.getCause().getClass().getSimpleName();
        } catch (IllegalAccessException e) {
            return e.getMessage();
        }
    }

    private static Method named(String name) {
        for (Method method : LiarsCock.class.getMethods()) {
            if (method.getName().equals(name)) {
                return method;
            }
        }
        throw new IllegalArgumentException("no call " + name);
    }

    private void showsEachCall() {
        for (Method method : LiarsCock.class.getMethods()) {
            boolean own = method.getDeclaringClass() == LiarsCock.class;
            due("README.md shows " + method.getName(), !own || shown.contains(method.getName()), true);
        }
    }
}
