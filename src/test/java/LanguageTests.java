import java.io.IOException;
import java.lang.reflect.Field;
import java.lang.reflect.Method;
import java.lang.reflect.Modifier;
import java.nio.file.Files;
import java.nio.file.Path;
import java.util.Map;
import java.util.Set;
import java.util.TreeMap;
import java.util.TreeSet;
import java.util.regex.Matcher;
import java.util.regex.Pattern;

/** The public face, and rules of LANGUAGE.md that the class or its text shows. */
public final class LanguageTests {
    private static final Path PROGRAM = Path.of("src/main/java/TopologyDesk.java");
    private static final Set<String> FACE = Set.of("clear/1", "point/2", "line/3", "rectangle/3",
            "cut/3", "combine/3", "grow/1", "fill/1", "outline/2", "kind/1", "size/1", "part/3",
            "relate/2", "is/3", "pairs/1", "pieces/1", "holes/1", "rim/1", "apart/2", "nearest/1",
            "inWindow/3");

    private static final int DEEPEST = 6;

    private static int wrong = 0;

    private static void check(String rule, boolean holds) {
        if (!holds) {
            wrong++;
            System.out.println("broken: " + rule);
        }
    }

    private static void checkFace() {
        Set<String> face = new TreeSet<>();
        Set<String> publicNames = new TreeSet<>();
        for (Method method : TopologyDesk.class.getDeclaredMethods()) {
            if (!Modifier.isPrivate(method.getModifiers())) {
                face.add(method.getName() + "/" + method.getParameterCount());
                publicNames.add(method.getName());
                check(method + " is public and not static", Modifier.isPublic(method.getModifiers())
                        && !Modifier.isStatic(method.getModifiers()));
                check(method + " answers an int", method.getReturnType() == int.class);
                for (Class<?> type : method.getParameterTypes()) {
                    check(method + " takes ints", type == int.class);
                }
            }
        }
        check("rule 1: the face is the document's, not " + face, face.equals(FACE));
        for (Method method : TopologyDesk.class.getDeclaredMethods()) {
            if (Modifier.isPrivate(method.getModifiers())) {
                check("rule 1: name of " + method, !publicNames.contains(method.getName()));
            }
            check("rule 10: parameters of " + method, method.getParameterCount() <= 7);
        }
        check("rule 1: final", Modifier.isFinal(TopologyDesk.class.getModifiers()));
        check("rule 1: no nested class", TopologyDesk.class.getDeclaredClasses().length == 0);
        check("one constructor", TopologyDesk.class.getDeclaredConstructors().length == 1);
    }

    private static void checkFields() {
        Set<Class<?>> plain = Set.of(int.class, long.class, short.class, byte.class, char.class,
                boolean.class);
        int count = 0;
        for (Field field : TopologyDesk.class.getDeclaredFields()) {
            Class<?> type = field.getType();
            check("rule 1: private " + field, Modifier.isPrivate(field.getModifiers()));
            if (Modifier.isStatic(field.getModifiers())) {
                check("rule 5: constant " + field, Modifier.isFinal(field.getModifiers())
                        && (type == int.class || type == long.class));
            } else {
                count++;
                check("rule 2: type of " + field,
                        plain.contains(type.isArray() ? type.getComponentType() : type));
                check("rule 4: no method assigns to " + field,
                        !type.isArray() || Modifier.isFinal(field.getModifiers()));
            }
        }
        check("rule 10: forty fields", count <= 40);
    }

    private static void checkText() throws IOException {
        String text = Files.readString(PROGRAM)
                .replaceAll("(?s)/\\*.*?\\*/", " ")
                .replaceAll("//[^\n]*", " ");
        String banned = "throw|throws|try|catch|synchronized|assert|instanceof|import|package|null|float"
                + "|double|String|Math|Integer|System|Arrays|Object|enum|record|interface";
        Matcher word = Pattern.compile("\\b(" + banned + ")\\b|->|::|\"").matcher(text);
        check("rules 1 to 6: a word outside them", !word.find());
        Matcher made = Pattern.compile("(.*)\\bnew\\b").matcher(text);
        while (made.find()) {
            check("rule 4: made in a field's initialiser: " + made.group(),
                    made.group(1).contains("private final"));
        }
        checkNestedCalls(text);
        checkLoops(text);
        checkCalls(methodsOf(text));
    }

    /** Rule 8: a loop that counts against a bound; this class needs no other kind. */
    private static void checkLoops(String text) {
        Matcher loop = Pattern.compile("\\b(?:while|do|for)\\b[^\n]*").matcher(text);
        Pattern counted = Pattern.compile(
                "for \\(int (\\w+) = [^;]*; \\1 <=? \\w+(?: && [^;]*)?; \\1(?:\\+\\+| \\+= 2)\\) \\{");
        while (loop.find()) {
            check("rule 8: the end of " + loop.group(), counted.matcher(loop.group()).matches());
        }
    }

    /** The text of each method and of the constructor, by name. */
    private static Map<String, String> methodsOf(String text) {
        Map<String, String> methods = new TreeMap<>();
        String head = "^    (?:public|private)[^;={}]*?\\b(\\w+)\\([^)]*\\) \\{$";
        Matcher method = Pattern.compile("(?ms)" + head + ".*?^    \\}$").matcher(text);
        while (method.find()) {
            check("one method of the name " + method.group(1),
                    methods.put(method.group(1), method.group()) == null);
        }
        int declared = TopologyDesk.class.getDeclaredMethods().length
                + TopologyDesk.class.getDeclaredConstructors().length;
        check("all methods are found in the text, not " + methods.keySet(), methods.size() == declared);
        return methods;
    }

    /** Rules 8 and 10: no method comes back to itself, calls go six deep, methods are short. */
    private static void checkCalls(Map<String, String> methods) {
        Map<String, Set<String>> calls = new TreeMap<>();
        methods.forEach((name, body) -> {
            check("rule 10: sixty lines in " + name, body.lines().count() <= 60);
            Set<String> called = new TreeSet<>();
            Matcher call = Pattern.compile("\\b(\\w+)\\(").matcher(body.substring(body.indexOf('{')));
            while (call.find()) {
                if (methods.containsKey(call.group(1))) {
                    called.add(call.group(1));
                }
            }
            calls.put(name, called);
        });
        Set<String> level = new TreeSet<>(methods.keySet());
        // Whoever is still called after so many steps is called too deep, or calls itself.
        for (int depth = 1; depth <= DEEPEST; depth++) {
            Set<String> below = new TreeSet<>();
            level.forEach(name -> below.addAll(calls.get(name)));
            level = below;
        }
        check("rules 8 and 10: calls go more than six deep, to " + level, level.isEmpty());
    }

    /** Rule 10: within the parentheses of a call stands no other call. */
    private static void checkNestedCalls(String text) {
        Matcher call = Pattern.compile("\\b([a-zA-Z]\\w*)\\(").matcher(text);
        while (call.find()) {
            int depth = 1;
            int end = call.end();
            while (depth > 0 && end < text.length()) {
                depth += text.charAt(end) == '(' ? 1 : text.charAt(end) == ')' ? -1 : 0;
                end++;
            }
            String arguments = text.substring(call.end(), end - 1);
            check("rule 10: a call in the arguments of " + call.group(1) + "(" + arguments + ")",
                    !Pattern.compile("\\w\\(").matcher(arguments).find());
        }
    }

    public static void main(String[] args) throws IOException {
        checkFace();
        checkFields();
        checkText();
        System.out.println(wrong == 0 ? "all rules are kept" : wrong + " rules are broken");
        if (wrong != 0) {
            System.exit(1);
        }
    }
}
