import java.io.IOException;
import java.lang.reflect.InvocationTargetException;
import java.lang.reflect.Method;
import java.lang.reflect.Modifier;
import java.nio.file.Files;
import java.nio.file.Path;
import java.util.ArrayList;
import java.util.Arrays;
import java.util.HashSet;
import java.util.List;
import java.util.Set;
import java.util.TreeSet;
import java.util.regex.Matcher;
import java.util.regex.Pattern;
import java.util.stream.Collectors;
import java.util.stream.Stream;

/** What README.md shows must be so: each call of its examples gives the answer told behind it. */
public final class ReadmeTests extends Bench {
    private static final Path README = Path.of("README.md");
    private static final Path TESTS = Path.of("src/test/java");
    private static final String MAKING = "BrailleCells x = new BrailleCells();";
    private static final Pattern CALL = Pattern.compile("x\\.(\\w+)\\(([^)]*)\\);(?:\\s+// (-?\\d+)(?:: .*)?)?");

    private static List<String> lines() throws IOException {
        return Files.readAllLines(README);
    }

    /** The lines of the examples in Java, one behind the other. */
    private static List<String> examples() throws IOException {
        List<String> found = new ArrayList<>();
        boolean inside = false;
        for (String line : lines()) {
            if (line.startsWith("```")) {
                inside = line.equals("```java");
            } else if (inside) {
                found.add(line);
            }
        }
        return found;
    }

    private static Method methodOf(String name) {
        for (Method m : BrailleCells.class.getDeclaredMethods()) {
            if (m.getName().equals(name) && Modifier.isPublic(m.getModifiers())) {
                return m;
            }
        }
        return null;
    }

    private static Object argument(Class<?> type, String told) {
        if (type == boolean.class) {
            return Boolean.valueOf(told);
        }
        long number = Long.decode(told.replace("L", ""));
        if (type == long.class) {
            return number;
        }
        return Math.toIntExact(number);
    }

    /** Null of a call that answers nothing. */
    private static Object answer(BrailleCells x, Method m, String told) throws IllegalAccessException,
            InvocationTargetException {
        String[] words = told.isBlank() ? new String[0] : told.split(", ");
        Object[] arguments = new Object[words.length];
        for (int i = 0; i < words.length; i++) {
            arguments[i] = argument(m.getParameterTypes()[i], words[i]);
        }
        return m.invoke(x, arguments);
    }

    static void t0_examples_giveTheAnswersThatAreTold() throws Exception {
        BrailleCells x = null;
        Set<String> shown = new HashSet<>();
        for (String line : examples()) {
            Matcher call = CALL.matcher(line);
            if (line.equals(MAKING)) {
                x = new BrailleCells();
            } else if (x == null || !call.matches() || methodOf(call.group(1)) == null) {
                fault("this line of an example is no call: " + line);
            } else {
                Object got = answer(x, methodOf(call.group(1)), call.group(2));
                shown.add(call.group(1));
                dueText(line, String.valueOf(got), String.valueOf(call.group(3)));
            }
        }
        for (Method m : BrailleCells.class.getDeclaredMethods()) {
            if (Modifier.isPublic(m.getModifiers()) && !shown.contains(m.getName())) {
                fault("no example shows " + m.getName());
            }
        }
    }

    /** The table of calls has each one as the class has it: its name, and so many arguments. */
    static void t0_calls_areThoseOfTheClass() throws Exception {
        TreeSet<String> told = new TreeSet<>();
        for (String line : lines()) {
            if (line.startsWith("| `")) {
                Matcher call = Pattern.compile("`(\\w+)\\(([^)]*)\\)`").matcher(line.split("\\|")[1]);
                while (call.find()) {
                    told.add(call.group(1) + " " + (call.group(2).isEmpty() ? 0 : call.group(2).split(",").length));
                }
            }
        }
        TreeSet<String> there = Arrays.stream(BrailleCells.class.getDeclaredMethods())
            .filter(m -> Modifier.isPublic(m.getModifiers()))
            .map(m -> m.getName() + " " + m.getParameterCount())
            .collect(Collectors.toCollection(TreeSet::new));
        dueText("the table of calls", told.toString(), there.toString());
    }

    static void t0_tests_areThoseThatThereAre() throws Exception {
        TreeSet<String> there;
        try (Stream<Path> files = Files.list(TESTS)) {
            there = files.map(f -> f.getFileName().toString()).filter(f -> f.endsWith("Tests.java"))
                .map(f -> f.replace(".java", "")).collect(Collectors.toCollection(TreeSet::new));
        }
        TreeSet<String> told = new TreeSet<>();
        Matcher name = Pattern.compile("`(\\w+Tests)`").matcher(Files.readString(README));
        while (name.find()) {
            told.add(name.group(1));
        }
        dueText("the tests that are told", told.toString(), there.toString());
    }

    public static void main(String[] args) {
        runAll(ReadmeTests.class);
    }
}
