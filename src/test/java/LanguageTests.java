import java.io.IOException;
import java.lang.reflect.Field;
import java.lang.reflect.Method;
import java.lang.reflect.Modifier;
import java.nio.file.Files;
import java.nio.file.Path;
import java.util.Set;
import java.util.TreeSet;
import java.util.regex.Matcher;
import java.util.regex.Pattern;

/** The public face, and rules of LANGUAGE.md that the class or its text shows. */
public final class LanguageTests {
    private static final Path PROGRAM = Path.of("src/main/java/TopologyDesk.java");
    private static final Set<String> FACE = Set.of("clear/1", "point/2", "line/3", "rectangle/3",
            "cut/3", "combine/3", "grow/1", "fill/1", "outline/2", "kind/1", "size/1", "part/3",
            "relate/2", "is/3", "pairs/1", "pieces/1", "holes/1", "rim/1", "apart/2", "nearest/1",
            "inWindow/3");

    private static int wrong = 0;

    private static void check(String rule, boolean holds) {
        if (!holds) {
            wrong++;
            System.out.println("broken: " + rule);
        }
    }

    private static void checkFace() {
        Set<String> face = new TreeSet<>();
        Set<String> publicNames = new TreeSet<>();
        for (Method method : TopologyDesk.class.getDeclaredMethods()) {
            if (!Modifier.isPrivate(method.getModifiers())) {
                face.add(method.getName() + "/" + method.getParameterCount());
                publicNames.add(method.getName());
                check(method + " is public and not static", Modifier.isPublic(method.getModifiers())
                        && !Modifier.isStatic(method.getModifiers()));
                check(method + " answers an int", method.getReturnType() == int.class);
                for (Class<?> type : method.getParameterTypes()) {
                    check(method + " takes ints", type == int.class);
                }
            }
        }
        check("rule 1: the face is the document's, not " + face, face.equals(FACE));
        for (Method method : TopologyDesk.class.getDeclaredMethods()) {
            if (Modifier.isPrivate(method.getModifiers())) {
                check("rule 1: name of " + method, !publicNames.contains(method.getName()));
            }
            check("rule 10: parameters of " + method, method.getParameterCount() <= 7);
        }
        check("rule 1: final", Modifier.isFinal(TopologyDesk.class.getModifiers()));
        check("rule 1: no nested class", TopologyDesk.class.getDeclaredClasses().length == 0);
        check("one constructor", TopologyDesk.class.getDeclaredConstructors().length == 1);
    }

    private static void checkFields() {
        Set<Class<?>> plain = Set.of(int.class, long.class, short.class, byte.class, char.class,
                boolean.class);
        int count = 0;
        for (Field field : TopologyDesk.class.getDeclaredFields()) {
            Class<?> type = field.getType();
            check("rule 1: private " + field, Modifier.isPrivate(field.getModifiers()));
            if (Modifier.isStatic(field.getModifiers())) {
                check("rule 5: constant " + field, Modifier.isFinal(field.getModifiers())
                        && (type == int.class || type == long.class));
            } else {
                count++;
                check("rule 2: type of " + field,
                        plain.contains(type.isArray() ? type.getComponentType() : type));
            }
        }
        check("rule 10: forty fields", count <= 40);
    }

    private static void checkText() throws IOException {
        String text = Files.readString(PROGRAM)
                .replaceAll("(?s)/\\*.*?\\*/", " ")
                .replaceAll("//[^\n]*", " ");
        String banned = "throw|throws|try|catch|synchronized|assert|instanceof|import|package|null|float"
                + "|double|String|Math|Integer|System|Arrays|Object|enum|record|interface";
        Matcher word = Pattern.compile("\\b(" + banned + ")\\b|->|::|\"").matcher(text);
        check("rules 1 to 6: a word outside them", !word.find());
        Matcher made = Pattern.compile("(.*)\\bnew\\b").matcher(text);
        while (made.find()) {
            check("rule 4: made in a field's initialiser: " + made.group(),
                    made.group(1).contains("private final"));
        }
        checkNestedCalls(text);
    }

    /** Rule 10: within the parentheses of a call stands no other call. */
    private static void checkNestedCalls(String text) {
        Matcher call = Pattern.compile("\\b([a-zA-Z]\\w*)\\(").matcher(text);
        while (call.find()) {
            int depth = 1;
            int end = call.end();
            while (depth > 0 && end < text.length()) {
                depth += text.charAt(end) == '(' ? 1 : text.charAt(end) == ')' ? -1 : 0;
                end++;
            }
            String arguments = text.substring(call.end(), end - 1);
            check("rule 10: a call in the arguments of " + call.group(1) + "(" + arguments + ")",
                    !Pattern.compile("\\w\\(").matcher(arguments).find());
        }
    }

    public static void main(String[] args) throws IOException {
        checkFace();
        checkFields();
        checkText();
        System.out.println(wrong == 0 ? "all rules are kept" : wrong + " rules are broken");
        if (wrong != 0) {
            System.exit(1);
        }
    }
}
