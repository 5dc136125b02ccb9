import java.io.IOException;
import java.lang.reflect.InvocationTargetException;
import java.lang.reflect.Method;
import java.lang.reflect.Modifier;
import java.nio.file.Files;
import java.nio.file.Path;
import java.util.regex.Matcher;
import java.util.regex.Pattern;

/** README.md: each call of its examples answers what is written behind it, and every call of the face is named. */
public final class ReadmeTest {
    private static final Path README = Path.of("README.md");
    private static final Pattern BLOCK = Pattern.compile("(?s)```java\n(.*?)```");
    private static final Pattern CALL = Pattern.compile("x\\.(\\w+)\\((.*)\\); +// (throws \\w+|-?\\d+)(:.*)?");
    private static final String MAKE = "WholeSound x = new WholeSound();";
    private static int asked = 0;
    private static int wrong = 0;

    private static void fault(String what) {
        wrong++;
        System.out.println(what);
    }

    public static void main(String[] args) throws IOException, IllegalAccessException {
        String text = Files.readString(README);
        Matcher blocks = BLOCK.matcher(text);
        while (blocks.find()) {
            example(blocks.group(1));
        }
        if (asked == 0) {
            fault("README.md has no example");
        }
        names(text);
        System.out.println("ReadmeTest: " + asked + " answers asked for, " + wrong + " wrong");
        if (wrong != 0) {
            System.exit(1);
        }
    }

    private static void example(String block) throws IllegalAccessException {
        WholeSound x = null;
        for (String line : block.split("\n")) {
            Matcher call = CALL.matcher(line);
            if (line.equals(MAKE)) {
                x = new WholeSound();
            } else if (x == null || !call.matches()) {
                fault("not a call with its answer: " + line);
            } else {
                asked++;
                String answer = answer(x, call.group(1), call.group(2));
                if (!answer.equals(call.group(3))) {
                    fault(line + " .. answered " + answer);
                }
            }
        }
    }

    private static String answer(WholeSound x, String name, String told) throws IllegalAccessException {
        String[] parts = told.isEmpty() ? new String[0] : told.split(", *");
        for (Method method : WholeSound.class.getDeclaredMethods()) {
            if (isOpen(method) && method.getName().equals(name) && method.getParameterCount() == parts.length) {
                try {
                    return String.valueOf(method.invoke(x, values(method, parts)));
                } catch (InvocationTargetException thrown) {
                    return "throws " + thrown.getCause().getClass().getSimpleName();
                }
            }
        }
        return "that there is no such call";
    }

    private static Object[] values(Method method, String[] parts) {
        Object[] values = new Object[parts.length];
        for (int i = 0; i < parts.length; i++) {
            if (method.getParameterTypes()[i] == long.class) {
                values[i] = Long.decode(parts[i].replace("L", ""));
            } else {
                values[i] = Integer.decode(parts[i]);
            }
        }
        return values;
    }

    private static boolean isOpen(Method method) {
        return Modifier.isPublic(method.getModifiers());
    }

    private static void names(String text) {
        for (Method method : WholeSound.class.getDeclaredMethods()) {
            if (isOpen(method) && !text.contains("`" + method.getName() + "`")) {
                fault("README.md does not name " + method.getName());
            }
        }
    }
}
