import java.io.IOException;
import java.lang.reflect.Field;
import java.lang.reflect.Method;
import java.lang.reflect.Modifier;
import java.nio.file.Files;
import java.nio.file.Path;
import java.util.List;
import java.util.Set;
import java.util.TreeSet;
import java.util.regex.Matcher;
import java.util.regex.Pattern;
import java.util.stream.Collectors;
import java.util.stream.Stream;

/** What README.md tells: its example, the calls and constants, and the tests there are. */
public final class ReadmeTest extends Check {
    private static final Pattern EXAMPLE = Pattern.compile("(?s)```java\n(.*?)```");
    private static final Pattern CALL =
            Pattern.compile("planner\\.(\\w+)\\(([-\\d, ]*)\\); +// (\\w+|-\\d+):? ?(.*)");
    private static final Pattern TERM = Pattern.compile("(-?\\d) \\* x([012])");
    private static final Pattern TEST = Pattern.compile("`(\\w+Test)`");

    public static void main(String[] args) throws Exception {
        Path program = Path.of(args[0]).toAbsolutePath().normalize();
        Path root = program.resolve("../../../..").normalize();
        String text = Files.readString(root.resolve("README.md"));
        Matcher example = EXAMPLE.matcher(text);
        if (example.find()) {
            runExample(example.group(1).lines().toList());
        } else {
            report("README.md has no example");
        }
        dueCalls(text);
        dueConstants(text);
        dueTests(text, root);
        end();
    }

    private static void runExample(List<String> lines) throws ReflectiveOperationException {
        due("the example's first line makes an object",
                lines.get(0).equals("AmountPlanner planner = new AmountPlanner();"), true);
        AmountPlanner planner = new AmountPlanner();
        Set<String> called = new TreeSet<>();
        for (String line : lines.subList(1, lines.size())) {
            Matcher call = CALL.matcher(line);
            if (call.matches()) {
                called.add(call.group(1));
                dueAnswer(planner, call);
            } else {
                report("not a call with its answer: " + line);
            }
        }
        due("different calls in the example", called.size() >= 14, true);
    }

    private static void dueAnswer(AmountPlanner planner, Matcher call)
            throws ReflectiveOperationException {
        String name = call.group(1);
        int[] values = Stream.of(call.group(2).split(", ")).filter(value -> !value.isEmpty())
                .mapToInt(Integer::parseInt).toArray();
        Class<?>[] types = new Class<?>[values.length];
        Object[] arguments = new Object[values.length];
        for (int i = 0; i < values.length; i++) {
            types[i] = int.class;
            arguments[i] = values[i];
        }
        Object answer = AmountPlanner.class.getMethod(name, types).invoke(planner, arguments);
        String told = call.group(3);
        if (told.matches("[A-Z]+")) {
            told = String.valueOf(AmountPlanner.class.getField(told).get(null));
        }
        if (!String.valueOf(answer).equals(told)) {
            report("README.md: " + call.group() + " answered " + answer);
        }
        if (name.equals("add") || name.equals("goal")) {
            due("README.md: the numbers of " + call.group(), numbersTold(call.group(4)), values[0]);
        }
    }

    private static int numbersTold(String sum) {
        int[] factors = new int[3];
        Matcher term = TERM.matcher(sum);
        while (term.find()) {
            factors[Integer.parseInt(term.group(2))] = Integer.parseInt(term.group(1));
        }
        return three(factors[0], factors[1], factors[2]);
    }

    private static void dueCalls(String text) {
        for (Method method : AmountPlanner.class.getDeclaredMethods()) {
            if (Modifier.isPublic(method.getModifiers())) {
                int count = method.getParameterCount();
                String arguments = count == 0 ? "" : "\\w+" + ", \\w+".repeat(count - 1);
                String told = "`" + method.getName() + "\\(" + arguments + "\\)`";
                due("README.md tells " + told, Pattern.compile(told).matcher(text).find(), true);
            }
        }
    }

    private static void dueConstants(String text) throws IllegalAccessException {
        for (Field field : AmountPlanner.class.getFields()) {
            String told = "`" + field.getName() + "` (" + field.get(null) + ")";
            due("README.md tells " + told, text.contains(told), true);
        }
    }

    private static void dueTests(String text, Path root) throws IOException {
        Set<String> told = new TreeSet<>();
        Matcher test = TEST.matcher(text);
        while (test.find()) {
            told.add(test.group(1));
        }
        try (Stream<Path> files = Files.list(root.resolve("src/test/java"))) {
            Set<String> there = files.map(file -> file.getFileName().toString().replace(".java", ""))
                    .collect(Collectors.toCollection(TreeSet::new));
            if (!told.equals(there)) {
                report("README.md tells of the tests " + told + ", there are " + there);
            }
        }
    }
}
