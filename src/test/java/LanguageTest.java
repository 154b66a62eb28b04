import java.io.IOException;
import java.lang.reflect.Field;
import java.lang.reflect.Method;
import java.lang.reflect.Modifier;
import java.nio.file.Files;
import java.nio.file.Path;
import java.util.HashSet;
import java.util.Map;
import java.util.Set;
import java.util.TreeMap;
import java.util.TreeSet;
import java.util.regex.Matcher;
import java.util.regex.Pattern;

/**
 * The public face, and those rules of LANGUAGE.md that can be read off the class or its text. The
 * text's path is the argument.
 */
public final class LanguageTest {
    private static final String[] FACE = {
        "int add(int, int, int)", "boolean remove(int)", "int conditions()", "boolean goal(int)",
        "boolean feasible(int)", "int bestTop(int)", "int bestBottom(int)", "int pointTop(int)",
        "int pointBottom(int)", "int tight()", "int reachTop(int, int)", "int reachBottom(int, int)",
        "boolean redundant(int)", "int whole()", "int wholePoint()", "int wholes()"};
    private static final Set<Class<?>> TYPES = Set.of(int.class, long.class, short.class, byte.class,
            char.class, boolean.class, int[].class, long[].class, short[].class, byte[].class,
            char[].class, boolean[].class);
    private static final String WORDS = "import|package|throw|throws|try|catch|finally|synchronized|assert"
            + "|instanceof|null|float|double|String|Math|Integer|Long|System|Arrays|Object|interface|enum"
            + "|record|volatile|native|length|clone|hashCode|equals|getClass";

    private static final int DEPTH = 6;

    private static int wrong = 0;

    public static void main(String[] args) throws IOException {
        lookAtClass();
        lookAtFields();
        lookAtMethods();
        if (args.length != 1) {
            report("the path of the program's text was not given");
        } else {
            lookAtText(Files.readString(Path.of(args[0])));
        }
        if (wrong != 0) {
            System.out.println(wrong + " faults");
            System.exit(1);
        }
        System.out.println("the face and the rules are kept");
    }

    private static void report(String fault) {
        wrong++;
        System.out.println(fault);
    }

    private static void lookAtClass() {
        Class<?> c = AmountPlanner.class;
        if (!Modifier.isPublic(c.getModifiers()) || !Modifier.isFinal(c.getModifiers())) {
            report("the class is not public and final");
        }
        if (c.getSuperclass() != Object.class || c.getInterfaces().length != 0
                || c.getDeclaredClasses().length != 0) {
            report("the class extends, implements or nests another one");
        }
        if (c.getDeclaredConstructors().length != 1 || c.getConstructors().length != 1
                || c.getConstructors()[0].getParameterCount() != 0) {
            report("there is not one public constructor without parameters");
        }
    }

    private static void lookAtFields() {
        Set<String> constants = new TreeSet<>();
        int fields = 0;
        for (Field field : AmountPlanner.class.getDeclaredFields()) {
            int modifiers = field.getModifiers();
            boolean constant = Modifier.isStatic(modifiers) && Modifier.isFinal(modifiers);
            fields += constant ? 0 : 1;
            if (Modifier.isPublic(modifiers) && constant) {
                constants.add(field.getType() + " " + field.getName());
            } else if (!Modifier.isPrivate(modifiers)) {
                report("field " + field.getName() + " is not private");
            }
            if (Modifier.isStatic(modifiers)
                    && !(constant && (field.getType() == int.class || field.getType() == long.class))) {
                report("static field " + field.getName() + " is not a constant of int or long");
            }
            if (!TYPES.contains(field.getType())) {
                report("field " + field.getName() + " has type " + field.getType());
            }
        }
        if (!constants.equals(Set.of("int BAD", "int FULL", "int NONE"))) {
            report("the public constants are " + constants);
        }
        if (fields > 40) {
            report("there are " + fields + " fields");
        }
    }

    private static void lookAtMethods() {
        Set<String> face = new TreeSet<>();
        Set<String> publicNames = new HashSet<>();
        for (Method method : AmountPlanner.class.getDeclaredMethods()) {
            if (Modifier.isPublic(method.getModifiers())) {
                face.add(described(method));
                publicNames.add(method.getName());
            }
        }
        if (!face.equals(new TreeSet<>(Set.of(FACE)))) {
            report("the public methods are " + face);
        }
        for (Method method : AmountPlanner.class.getDeclaredMethods()) {
            boolean hidden = Modifier.isPrivate(method.getModifiers());
            if (!hidden && !Modifier.isPublic(method.getModifiers())) {
                report("method " + method.getName() + " is neither public nor private");
            }
            if (hidden && publicNames.contains(method.getName())) {
                report("private method " + method.getName() + " bears the name of a public one");
            }
            if (method.getParameterCount() > 7 || method.getReturnType().isArray()) {
                report("method " + method.getName() + " takes too much or answers an array");
            }
        }
    }

    private static String described(Method method) {
        StringBuilder text = new StringBuilder();
        for (Class<?> type : method.getParameterTypes()) {
            text.append(text.length() == 0 ? "" : ", ").append(type);
        }
        String kept = Modifier.isStatic(method.getModifiers()) ? "static " : "";
        return kept + method.getReturnType() + " " + method.getName() + "(" + text + ")";
    }

    private static void lookAtText(String text) {
        String code = text.replaceAll("(?s)/\\*.*?\\*/", "").replaceAll("//[^\n]*", "");
        Matcher word = Pattern.compile("\\b(" + WORDS + ")\\b|->|::|\"|\\[\\s*\\]\\s*\\[").matcher(code);
        while (word.find()) {
            report("the text has " + word.group());
        }
        Pattern made = Pattern.compile("    private final \\w+\\[\\] \\w+ = new \\w+\\[([A-Z_]+|[0-9]+)\\];");
        for (String line : code.split("\n")) {
            if (line.matches(".*\\bnew\\b.*") && !made.matcher(line).matches()) {
                report("something is made outside a field's initialiser: " + line.trim());
            }
        }
        lookAtCalls(code);
        // A call with another call among its arguments; the keywords before brackets are no calls.
        String call = "\\b(?!if\\b|for\\b|while\\b|switch\\b|return\\b)\\w+\\(";
        Matcher nested = Pattern.compile(call + "[^();]*" + call).matcher(code);
        while (nested.find()) {
            report("a call stands in another one's arguments: " + nested.group());
        }
    }

    /** Rules 8 and 10: no recursion, methods short, calls not too deep. */
    private static void lookAtCalls(String code) {
        Map<String, String> bodies = new TreeMap<>();
        String head = "^    (?:public|private)[\\w\\s\\[\\]]*?\\b(\\w+)\\([^)]*\\) \\{\n";
        Matcher method = Pattern.compile("(?ms)" + head + "(.*?)^    \\}").matcher(code);
        while (method.find()) {
            bodies.put(method.group(1), method.group(2));
            if (method.group(2).lines().count() > 60) {
                report("method " + method.group(1) + " is too long");
            }
        }
        if (bodies.size() != AmountPlanner.class.getDeclaredMethods().length + 1) {
            report("not every method was found in the text: " + bodies.keySet());
        }
        Set<String> now = bodies.keySet();
        int depth = 0;
        // Level by level down from all methods: without recursion a level is empty before long.
        while (!now.isEmpty() && depth < DEPTH) {
            depth++;
            now = calledBy(now, bodies);
        }
        if (!now.isEmpty()) {
            report("calls go more than " + DEPTH + " deep, or a method calls itself, by way of " + now);
        }
    }

    private static Set<String> calledBy(Set<String> callers, Map<String, String> bodies) {
        Set<String> called = new TreeSet<>();
        for (String caller : callers) {
            Matcher call = Pattern.compile("\\b(\\w+)\\(").matcher(bodies.get(caller));
            while (call.find()) {
                if (bodies.containsKey(call.group(1))) {
                    called.add(call.group(1));
                }
            }
        }
        return called;
    }
}
