import java.io.IOException;
import java.lang.reflect.Method;
import java.lang.reflect.Modifier;
import java.nio.file.Files;
import java.nio.file.Path;
import java.util.Set;
import java.util.TreeSet;
import java.util.regex.Matcher;
import java.util.regex.Pattern;

/** That README.md tells the truth: its example's answers, and its table of calls. */
public final class ReadmeTests {
    private static final Pattern EXAMPLE = Pattern.compile("(?m)^desk\\.(\\w+)\\(([^)]*)\\); *// (-?\\d+)");
    private static final Pattern TABLE = Pattern.compile("(?m)^\\| `(\\w+)\\(([^)]*)\\)` \\|");

    private static int wrong = 0;

    private static void check(String what, Object got, Object want) {
        if (!got.equals(want)) {
            wrong++;
            System.out.println(what + ": " + got + ", due is " + want);
        }
    }

    private static int call(TopologyDesk desk, String name, String[] arguments)
            throws ReflectiveOperationException {
        Class<?>[] types = new Class<?>[arguments.length];
        Object[] values = new Object[arguments.length];
        for (int k = 0; k < arguments.length; k++) {
            types[k] = int.class;
            values[k] = Integer.valueOf(arguments[k].trim());
        }
        return (int) TopologyDesk.class.getMethod(name, types).invoke(desk, values);
    }

    private static void checkExample(String readme) throws ReflectiveOperationException {
        TopologyDesk desk = new TopologyDesk();
        Matcher line = EXAMPLE.matcher(readme);
        int found = 0;
        while (line.find()) {
            found++;
            check(line.group(), call(desk, line.group(1), line.group(2).split(",")),
                    Integer.valueOf(line.group(3)));
        }
        check("README.md has an example", found > 0, true);
        check("each line of the example has its answer", found,
                (int) readme.lines().filter(text -> text.startsWith("desk.")).count());
    }

    private static void checkTable(String readme) {
        Set<String> told = new TreeSet<>();
        Matcher row = TABLE.matcher(readme);
        while (row.find()) {
            told.add(row.group(1) + "/" + row.group(2).split(",").length);
        }
        Set<String> face = new TreeSet<>();
        for (Method method : TopologyDesk.class.getDeclaredMethods()) {
            if (Modifier.isPublic(method.getModifiers())) {
                face.add(method.getName() + "/" + method.getParameterCount());
            }
        }
        check("the table of calls", told, face);
    }

    public static void main(String[] args) throws IOException, ReflectiveOperationException {
        String readme = Files.readString(Path.of("README.md"));
        checkExample(readme);
        checkTable(readme);
        System.out.println(wrong == 0 ? "README.md holds" : wrong + " lines of README.md do not hold");
        if (wrong != 0) {
            System.exit(1);
        }
    }
}
