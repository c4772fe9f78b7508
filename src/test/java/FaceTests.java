import java.lang.reflect.Constructor;
import java.lang.reflect.Field;
import java.lang.reflect.Method;
import java.lang.reflect.Modifier;
import java.nio.file.Files;
import java.nio.file.Path;
import java.util.Map;
import java.util.Set;
import java.util.TreeMap;
import java.util.TreeSet;
import java.util.regex.Matcher;
import java.util.regex.Pattern;

/** The public face, and the rules of LANGUAGE.md that can be seen in the text of the class. */
public final class FaceTests {
    private static final Map<String, Integer> CONSTANTS = Map.of(
        "BAD_FEATURE", -1, "BAD_TARGET", -2, "FULL", -3, "BAD_SIZE", -4, "BAD_NODE", -5, "LEAF", -6, "EMPTY", -7);

    private static final Set<String> METHODS = Set.of(
        "int row(int, int)", "int retarget(int, int)", "int train()", "int dropTree()", "void clear()",
        "int predict(int)", "int rest(int)", "int loss()", "int feature(int, int)", "int bound(int, int)",
        "int value(int, int)", "int rows(int, int)");

    private static final String[] FORBIDDEN = {
        "package", "import", "interface", "enum", "record", "extends", "implements", "float", "double", "String",
        "Object", "Math", "Integer", "Long", "System", "Arrays", "null", "throw", "throws", "try", "catch", "finally",
        "synchronized", "assert", "instanceof", "super", "protected", "abstract", "native", "var", "length"};

    private static final int MAX_DEPTH = 6;

    private static int wrong = 0;

    public static void main(String[] args) throws Exception {
        constantsAndFields();
        methods();
        constructors();
        String source = Files.readString(Path.of("src/main/java/HistogramTree.java"));
        String code = source.replaceAll("(?s)/\\*.*?\\*/", " ").replaceAll("//[^\n]*", " ");
        text(code);
        loops(code);
        calls(code);
        System.out.println(wrong == 0 ? "the face is as due" : wrong + " faults");
        if (wrong != 0) {
            System.exit(1);
        }
    }

    private static void check(boolean holds, String fault) {
        if (!holds) {
            wrong++;
            System.out.println(fault);
        }
    }

    private static void constantsAndFields() throws Exception {
        int instanceFields = 0;
        Set<String> open = new TreeSet<>();
        for (Field field : HistogramTree.class.getDeclaredFields()) {
            int marks = field.getModifiers();
            if (!Modifier.isPrivate(marks)) {
                open.add(field.getName());
                check(Modifier.isPublic(marks) && Modifier.isStatic(marks) && Modifier.isFinal(marks)
                    && field.getType() == int.class, field + " is not a public constant");
                check(CONSTANTS.containsKey(field.getName()) && CONSTANTS.get(field.getName()) == field.getInt(null),
                    field + " is not as in the document");
            }
            if (Modifier.isStatic(marks)) {
                check(Modifier.isFinal(marks) && (field.getType() == int.class || field.getType() == long.class),
                    field + " is static and not a constant (rule 5)");
            } else {
                instanceFields++;
            }
        }
        check(open.equals(CONSTANTS.keySet()), "the constants are " + open);
        check(instanceFields <= 40, instanceFields + " fields (rule 10)");
    }

    private static void methods() {
        Set<String> open = new TreeSet<>();
        Set<String> openNames = new TreeSet<>();
        for (Method method : HistogramTree.class.getDeclaredMethods()) {
            if (!Modifier.isPrivate(method.getModifiers())) {
                check(method.getModifiers() == Modifier.PUBLIC, method + " is not plainly public");
                open.add(describe(method));
                openNames.add(method.getName());
            }
            check(method.getParameterCount() <= 7, method + " has too many parameters (rule 10)");
            check(!method.getReturnType().isArray(), method + " answers an array (rule 4)");
        }
        for (Method method : HistogramTree.class.getDeclaredMethods()) {
            check(!Modifier.isPrivate(method.getModifiers()) || !openNames.contains(method.getName()),
                method + " bears the name of a public one (rule 1)");
        }
        check(open.equals(METHODS), "the methods are " + open);
    }

    private static String describe(Method method) {
        StringBuilder types = new StringBuilder();
        for (Class<?> type : method.getParameterTypes()) {
            types.append(types.length() == 0 ? "" : ", ").append(type);
        }
        return method.getReturnType() + " " + method.getName() + "(" + types + ")";
    }

    private static void constructors() {
        Constructor<?>[] all = HistogramTree.class.getDeclaredConstructors();
        check(all.length == 1 && all[0].getModifiers() == Modifier.PUBLIC && all[0].getParameterCount() == 1
            && all[0].getParameterTypes()[0] == int.class, "the constructor is not as in the document");
        int marks = HistogramTree.class.getModifiers();
        check(marks == (Modifier.PUBLIC | Modifier.FINAL), "the class is not public and final");
        check(HistogramTree.class.getSuperclass() == Object.class && HistogramTree.class.getInterfaces().length == 0
            && HistogramTree.class.getDeclaredClasses().length == 0, "the class is not one plain class (rule 1)");
    }

    private static void text(String code) {
        for (String word : FORBIDDEN) {
            check(!Pattern.compile("\\b" + word + "\\b").matcher(code).find(), "the class uses " + word);
        }
        check(count(code, "\\bclass\\b") == 1, "more than one class (rule 1)");
        check(count(code, "\\bHistogramTree\\b") == 2, "the class names itself (rule 2)");
        check(count(code, "->|::|\"|@|\\[\\]\\s*\\[\\]") == 0, "a lambda, reference, string, mark or nested array");
        check(count(code, "\\bstatic\\s*\\{") == 0, "a static initialiser (rule 5)");
        check(count(code, "\\bnew\\b") == count(code, "(?m)^    private final int\\[\\] \\w+ = new int\\[[A-Z_]+\\];$"),
            "something is made outside a field's initialiser (rule 4)");
        check(count(code, "\\b[a-z]\\w*\\([^()]*\\b(?!if|for|while|switch|return)[a-z]\\w*\\([^()]*\\)[^()]*\\)\\s*;") == 0,
            "a call inside the arguments of another call (rule 10)");
    }

    /** Every loop counts up by one to a bound, and its body sets neither the counter nor the bound. */
    private static void loops(String code) {
        check(count(code, "\\b(while|do)\\b") == 0, "a loop without a counter in its head (rule 8)");
        Matcher heads = Pattern.compile("(?m)^( +)for \\(int (\\w+) = 0; \\2 < (\\w+); \\2\\+\\+\\) \\{$").matcher(code);
        int found = 0;
        while (heads.find()) {
            found++;
            String body = code.substring(heads.end(), code.indexOf("\n" + heads.group(1) + "}", heads.end()));
            check(!sets(body, heads.group(2)) && !sets(body, heads.group(3)),
                "a loop over " + heads.group(2) + " sets its counter or bound (rule 8)");
        }
        check(found == count(code, "\\bfor\\b"), "a loop that does not count up to a bound (rule 8)");
    }

    private static boolean sets(String body, String name) {
        return count(body, "\\b" + name + "\\s*([-+*/%&|^]|<<|>>>?)?=(?!=)") > 0
            || count(body, "\\b" + name + "\\s*(\\+\\+|--)|(\\+\\+|--)\\s*" + name + "\\b") > 0;
    }

    /** No recursion, calls at most six deep, methods of at most sixty lines. */
    private static void calls(String code) {
        Map<String, String> bodies = new TreeMap<>();
        Matcher methods = Pattern.compile("(?ms)^    (?:public|private) (?:static )?(?:\\w+ )?(\\w+)\\([^)]*\\) \\{(.*?)^    \\}$")
            .matcher(code);
        while (methods.find()) {
            bodies.put(methods.group(1), methods.group(2));
            check(count(methods.group(2), "\n") < 60, methods.group(1) + " is long (rule 10)");
        }
        check(bodies.size() == HistogramTree.class.getDeclaredMethods().length + 1, "the methods found are " + bodies.keySet());
        for (String name : bodies.keySet()) {
            check(depth(bodies, name, 1) <= MAX_DEPTH, "calls from " + name + " go too deep or in a ring (rules 8, 10)");
        }
    }

    private static int depth(Map<String, String> bodies, String name, int above) {
        int deepest = above;
        for (String called : bodies.keySet()) {
            if (above <= MAX_DEPTH && count(bodies.get(name), "\\b" + called + "\\(") > 0) {
                deepest = Math.max(deepest, depth(bodies, called, above + 1));
            }
        }
        return deepest;
    }

    private static int count(String code, String pattern) {
        Matcher matcher = Pattern.compile(pattern).matcher(code);
        int found = 0;
        while (matcher.find()) {
            found++;
        }
        return found;
    }
}
