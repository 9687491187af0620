import java.io.IOException;
import java.lang.reflect.InvocationTargetException;
import java.lang.reflect.Method;
import java.nio.file.Files;
import java.nio.file.Path;
import java.util.regex.Matcher;
import java.util.regex.Pattern;

/** The calls of README.md's example, one after the other on one object, each with the answer that stands behind it. */
public final class ReadmeTest extends Checks {
    private static final Pattern CALL = Pattern.compile("x\\.(\\w+)\\(([^)]*)\\);\\s*//\\s*(-?\\w+).*");
    /** All calls of the example: a line that is not read as one would else go by unseen. */
    private static final int CALLS = 25;

    public static void main(String[] args) throws IOException, IllegalAccessException {
        SharedPurse x = new SharedPurse();
        int asked = 0;
        for (String line : Files.readAllLines(Path.of("README.md"))) {
            Matcher m = CALL.matcher(line);
            if (m.matches()) {
                says(line);
                String got = answer(x, method(m.group(1)), m.group(2).isEmpty() ? new String[0] : m.group(2).split(", "));
                yes("answered " + got, got.equals("null") || got.equals(m.group(3)));
                asked++;
            }
        }
        says("README.md");
        due("calls of the example", asked, CALLS);
        finish("README.md tells what is so");
    }

    private static Method method(String name) {
        for (Method m : SharedPurse.class.getMethods()) {
            if (m.getName().equals(name)) {
                return m;
            }
        }
        throw new IllegalStateException("no method " + name);
    }

    private static String answer(SharedPurse x, Method m, String[] told) throws IllegalAccessException {
        Object[] given = new Object[told.length];
        for (int i = 0; i < told.length; i++) {
            boolean isFlag = m.getParameterTypes()[i] == boolean.class;
            given[i] = isFlag ? (Object) Boolean.valueOf(told[i]) : (Object) Long.decode(told[i]).intValue();
        }
        try {
            return String.valueOf(m.invoke(x, given));
        } catch (InvocationTargetException e) {
            return e.getCause().getClass().getSimpleName();
        }
    }
}
