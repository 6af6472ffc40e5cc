import java.io.IOException;
import java.lang.reflect.Method;
import java.nio.file.Files;
import java.nio.file.Path;
import java.util.Arrays;
import java.util.HashMap;
import java.util.Map;
import java.util.Set;
import java.util.TreeSet;
import java.util.regex.Matcher;
import java.util.regex.Pattern;

/**
 * Makes the calls of README.md's example and compares their answers with those it tells: the number,
 * true or false that begins the remark after a call. Every public method must stand in README.md.
 */
public final class ReadmeTest {
    private static final Pattern EXAMPLE = Pattern.compile("(?s)```java\n(.*?)```");
    private static final Pattern CALL = Pattern.compile(
        "(?:(?:int|boolean) (\\w+) = )?desk\\.(\\w+)\\(([^)]*)\\); *// (?:(-?\\d+|true|false)\\b)?.*");

    private static final Due due = new Due();

    public static void main(String[] args) throws IOException, ReflectiveOperationException {
        String readme = Files.readString(Path.of("README.md"));
        Matcher example = EXAMPLE.matcher(readme);
        due.begin("README.md");
        boolean found = example.find();
        due.due("has an example", found, true);
        if (found) {
            run(example.group(1));
        }
        Set<String> told = new TreeSet<>();
        Matcher name = Pattern.compile("`(\\w+)\\(").matcher(readme);
        while (name.find()) {
            told.add(name.group(1));
        }
        for (Method m : publicMethods()) {
            due.due("tells of " + m.getName(), told.contains(m.getName()), true);
        }
        due.finish();
    }

    private static void run(String example) throws ReflectiveOperationException {
        OutcomeDesk desk = new OutcomeDesk();
        Map<String, Integer> names = new HashMap<>();
        String[] lines = example.split("\n");
        due.due("begins with a new object: " + lines[0], lines[0].equals("OutcomeDesk desk = new OutcomeDesk();"), true);
        for (int i = 1; i < lines.length; i++) {
            Matcher call = CALL.matcher(lines[i]);
            boolean understood = call.matches();
            due.due("a call with a remark: " + lines[i], understood, true);
            if (understood) {
                int answer = answer(desk, call.group(2), call.group(3), names);
                if (call.group(1) != null) {
                    names.put(call.group(1), answer);
                }
                if (call.group(4) != null) {
                    due.due(lines[i], answer, number(call.group(4)));
                }
            }
        }
    }

    private static int answer(OutcomeDesk desk, String name, String arguments, Map<String, Integer> names)
            throws ReflectiveOperationException {
        Object[] given = Arrays.stream(arguments.split(", ")).filter(a -> !a.isEmpty())
            .map(a -> names.containsKey(a) ? names.get(a) : Integer.valueOf(a)).toArray();
        for (Method m : publicMethods()) {
            if (m.getName().equals(name)) {
                return number(String.valueOf(m.invoke(desk, given)));
            }
        }
        throw new NoSuchMethodException(name);
    }

    private static Method[] publicMethods() {
        return Arrays.stream(OutcomeDesk.class.getMethods())
            .filter(m -> m.getDeclaringClass() == OutcomeDesk.class).toArray(Method[]::new);
    }

    private static int number(String answer) {
        return switch (answer) {
            case "true" -> 1;
            case "false" -> 0;
            default -> Integer.parseInt(answer);
        };
    }
}
