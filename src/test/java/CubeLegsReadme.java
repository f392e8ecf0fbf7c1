import java.io.IOException;
import java.lang.reflect.InvocationTargetException;
import java.lang.reflect.Method;
import java.lang.reflect.Modifier;
import java.nio.file.Files;
import java.nio.file.Path;
import java.util.regex.Matcher;
import java.util.regex.Pattern;

/** Every line of Java in README.md, with the answer that stands behind it. Runs at the project's root. */
public final class CubeLegsReadme {
    private static final Pattern CALL = Pattern.compile("x\\.(\\w+)\\(([-\\d, ]*)\\);\\s+// (-?\\d+)(: .*)?");
    private static final Pattern TEXT = Pattern.compile("for \\(char c : \"([^\"]*)\"\\.toCharArray\\(\\)\\) x\\.type\\(c\\);");
    private static final int FEWEST_CALLS = 30;
    private static CubeLegs x = null;
    private static int calls = 0;
    private static int wrong = 0;

    private static void complain(String what) {
        wrong++;
        System.out.println(what);
    }

    private static Method methodNamed(String name) {
        for (Method m : CubeLegs.class.getDeclaredMethods()) {
            if (m.getName().equals(name) && Modifier.isPublic(m.getModifiers())) {
                return m;
            }
        }
        return null;
    }

    private static Object[] numbers(String list) {
        String[] parts = list.isBlank() ? new String[0] : list.split(",");
        Object[] numbers = new Object[parts.length];
        for (int i = 0; i < parts.length; i++) {
            numbers[i] = Integer.parseInt(parts[i].trim());
        }
        return numbers;
    }

    private static void checkCall(String line, Matcher call) throws IllegalAccessException, InvocationTargetException {
        Method method = methodNamed(call.group(1));
        Object[] arguments = numbers(call.group(2));
        if (x == null || method == null || method.getParameterCount() != arguments.length) {
            complain("README.md: no such call: " + line);
            return;
        }
        calls++;
        long got = ((Number) method.invoke(x, arguments)).longValue();
        if (got != Long.parseLong(call.group(3))) {
            complain("README.md: " + line + " answered " + got);
        }
    }

    private static void checkLine(String line) throws IllegalAccessException, InvocationTargetException {
        Matcher call = CALL.matcher(line);
        Matcher text = TEXT.matcher(line);
        if (line.equals("CubeLegs x = new CubeLegs();")) {
            x = new CubeLegs();
        } else if (call.matches()) {
            checkCall(line, call);
        } else if (text.matches() && x != null) {
            text.group(1).chars().forEach(x::type);
        } else {
            complain("README.md: a line that can not be looked at: " + line);
        }
    }

    private static void checkTable(String page) {
        for (Method m : CubeLegs.class.getDeclaredMethods()) {
            if (Modifier.isPublic(m.getModifiers())) {
                Matcher row = Pattern.compile("(?m)^\\| `" + m.getName() + "\\(([^)]*)\\)` \\|").matcher(page);
                int named = !row.find() ? -1 : row.group(1).isBlank() ? 0 : row.group(1).split(",").length;
                if (named != m.getParameterCount()) {
                    complain("README.md: no row for " + m.getName() + " with " + m.getParameterCount() + " arguments");
                }
            }
        }
    }

    public static void main(String[] args) throws IOException, IllegalAccessException, InvocationTargetException {
        String page = Files.readString(Path.of("README.md"));
        boolean inside = false;
        for (String line : page.split("\n")) {
            if (line.startsWith("```")) {
                inside = line.equals("```java");
                x = null;
            } else if (inside) {
                checkLine(line);
            }
        }
        checkTable(page);
        if (calls < FEWEST_CALLS) {
            complain("README.md: only " + calls + " calls were found in it");
        }
        System.out.println(wrong == 0 ? calls + " calls: the page is right" : wrong + " lines are not right");
        if (wrong != 0) {
            System.exit(1);
        }
    }
}
