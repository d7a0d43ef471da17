import java.io.IOException;
import java.lang.reflect.Method;
import java.lang.reflect.Modifier;
import java.nio.file.Files;
import java.nio.file.Path;
import java.util.regex.Matcher;
import java.util.regex.Pattern;

/** That README.md's example answers what stands behind each call, and that every call of the face is named there. */
public final class ReadmeTest {
    private static final Pattern TEXT = Pattern.compile("String text = \"([^\"]*)\";");
    private static final Pattern CALL = Pattern.compile("(?m)^x\\.(\\w+)\\(([^)]*)\\); +// (-?\\d+): ");

    private static Object argument(String told, Class<?> type) {
        return type == boolean.class ? (Object) Boolean.valueOf(told) : (Object) Integer.valueOf(told);
    }

    private static int answer(LeastTeaches x, String name, String told) throws ReflectiveOperationException {
        for (Method m : LeastTeaches.class.getDeclaredMethods()) {
            if (!m.getName().equals(name) || !Modifier.isPublic(m.getModifiers())) continue;
            String[] parts = told.isEmpty() ? new String[0] : told.split(", ");
            Object[] arguments = new Object[parts.length];
            for (int i = 0; i < parts.length; i++) arguments[i] = argument(parts[i], m.getParameterTypes()[i]);
            return (Integer) m.invoke(x, arguments);
        }
        throw new NoSuchMethodException(name);
    }

    public static void main(String[] args) throws IOException, ReflectiveOperationException {
        String page = Files.readString(Path.of("README.md"));
        int wrong = 0;
        for (Method m : LeastTeaches.class.getDeclaredMethods()) {
            if (Modifier.isPublic(m.getModifiers()) && !page.contains("`" + m.getName() + "`")) {
                wrong++;
                System.out.println("README.md does not name " + m.getName());
            }
        }
        LeastTeaches x = new LeastTeaches();
        Matcher text = TEXT.matcher(page);
        if (text.find()) Due.feed(x, text.group(1));
        int calls = 0;
        for (Matcher call = CALL.matcher(page); call.find(); calls++) {
            int got = answer(x, call.group(1), call.group(2));
            if (got == Integer.parseInt(call.group(3))) continue;
            wrong++;
            System.out.println(call.group() + "but it answers " + got);
        }
        System.out.println("ReadmeTest: " + calls + " calls, " + wrong + " wrong");
        if (wrong != 0 || calls < 10) System.exit(1);
    }
}
