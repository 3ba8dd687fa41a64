import java.io.IOException;
import java.lang.reflect.InvocationTargetException;
import java.lang.reflect.Method;
import java.nio.file.Files;
import java.nio.file.Path;
import java.util.ArrayList;
import java.util.List;
import java.util.TreeSet;
import java.util.regex.Matcher;
import java.util.regex.Pattern;

/** Makes the calls of README.md, whose lines tell what they answer; run from the root. */
public final class ReadmeTest {
    private static final Path README = Path.of("README.md");
    private static final Pattern LINE = Pattern.compile("x\\.(\\w+)\\((.*)\\);\\s+// (throws )?([-\\w.]*\\w).*");

    private static int calls = 0;
    private static int wrong = 0;

    public static void main(String[] args) throws IOException {
        String page = Files.readString(README);
        SignRoots x = new SignRoots();
        for (String line : example(page)) {
            check(x, line);
        }
        everyMethodIsTold(page);
        if (calls < 20) {
            say("only " + calls + " calls were found");
        }
        System.out.println(wrong == 0 ? calls + " calls of the page hold" : wrong + " things of the page are wrong");
        if (wrong != 0) {
            System.exit(1);
        }
    }

    private static void say(String what) {
        wrong++;
        System.out.println(what);
    }

    private static List<String> example(String page) {
        List<String> lines = new ArrayList<>();
        boolean inside = false;
        for (String line : page.split("\n")) {
            if (line.startsWith("```")) {
                inside = line.equals("```java");
            } else if (inside && !line.equals("SignRoots x = new SignRoots();")) {
                lines.add(line);
            }
        }
        return lines;
    }

    private static void check(SignRoots x, String line) {
        Matcher parts = LINE.matcher(line);
        if (!parts.matches()) {
            say("no call and answer: " + line);
            return;
        }
        calls++;
        String got = answer(x, parts.group(1), parts.group(2));
        if (!got.equals(parts.group(4))) {
            say(line + ": it answered " + got);
        }
    }

    private static String answer(SignRoots x, String name, String arguments) {
        Object[] values = arguments.isEmpty() ? new Object[0] : values(arguments.split(", "));
        for (Method method : SignRoots.class.getMethods()) {
            if (method.getName().equals(name) && method.getParameterCount() == values.length) {
                try {
                    return String.valueOf(method.invoke(x, values));
                } catch (InvocationTargetException e) {
                    return e.getCause().getClass().getSimpleName();
                } catch (IllegalAccessException e) {
                    return "no access";
                }
            }
        }
        return "no such method";
    }

    private static Object[] values(String[] arguments) {
        Object[] values = new Object[arguments.length];
        for (int i = 0; i < values.length; i++) {
            String argument = arguments[i];
            values[i] = argument.startsWith("'") ? (int) argument.charAt(1) : Integer.parseInt(argument);
        }
        return values;
    }

    private static void everyMethodIsTold(String page) {
        TreeSet<String> names = new TreeSet<>();
        for (Method method : SignRoots.class.getDeclaredMethods()) {
            if (java.lang.reflect.Modifier.isPublic(method.getModifiers())) {
                names.add(method.getName());
            }
        }
        for (String name : names) {
            if (!page.contains("`" + name + "(")) {
                say("the page doesn't tell of " + name);
            }
        }
    }
}
