import java.io.IOException;
import java.lang.reflect.Constructor;
import java.lang.reflect.Field;
import java.lang.reflect.Method;
import java.lang.reflect.Modifier;
import java.nio.file.Files;
import java.nio.file.Path;
import java.util.Set;
import java.util.TreeSet;
import java.util.regex.Matcher;
import java.util.regex.Pattern;

/** The public face of the document, and those rules of LANGUAGE.md that can be seen in the text. */
public final class LanguageTest {
    private static final Set<String> FACE = Set.of(
        "int condition(int, int, int)", "int program(int, int, int, int)", "boolean holds(int, int)", "int drop()",
        "int count(int, int, int)", "int first(int, int, int)", "boolean is(int, int, int, int)",
        "int ends(int, int)", "int end(int, int, int)", "int after(int, int)", "boolean refines(int, int)",
        "boolean same(int, int)", "boolean level(int)");

    private static final Due due = new Due();

    public static void main(String[] args) throws IOException {
        methods();
        fields();
        classItself();
        text(Files.readString(Path.of("src/main/java/OutcomeDesk.java")));
        due.finish();
    }

    private static void methods() {
        Set<String> found = new TreeSet<>();
        Set<String> names = new TreeSet<>();
        for (Method m : OutcomeDesk.class.getDeclaredMethods()) {
            if (Modifier.isPublic(m.getModifiers())) {
                String types = m.toString().replaceAll(".*\\(|\\).*", "").replace(",", ", ");
                found.add(m.getReturnType() + " " + m.getName() + "(" + types + ")");
                names.add(m.getName());
                due.due(m + " is an object's", Modifier.isStatic(m.getModifiers()), false);
            }
        }
        due.due("public methods " + found, found.equals(FACE), true);
        for (Method m : OutcomeDesk.class.getDeclaredMethods()) {
            due.due("parameters of " + m + " are at most 7", m.getParameterCount() <= 7, true);
            if (!Modifier.isPublic(m.getModifiers())) {
                due.due(m + " is private", Modifier.isPrivate(m.getModifiers()), true);
                due.due(m + " has a name of its own", names.contains(m.getName()), false);
            }
        }
    }

    private static void fields() {
        int own = 0;
        for (Field f : OutcomeDesk.class.getDeclaredFields()) {
            boolean constant = Set.of("BAD", "FULL", "NONE").contains(f.getName());
            due.due(f + " is public", Modifier.isPublic(f.getModifiers()), constant);
            due.due(f + " is private", Modifier.isPrivate(f.getModifiers()), !constant);
            if (Modifier.isStatic(f.getModifiers())) {
                boolean number = f.getType() == int.class || f.getType() == long.class;
                due.due(f + " is a constant number", number && Modifier.isFinal(f.getModifiers()), true);
            } else {
                own++;
                Class<?> type = f.getType().isArray() ? f.getType().getComponentType() : f.getType();
                due.due(f + " is of a number type", type.isPrimitive() && type != float.class && type != double.class, true);
            }
        }
        due.due("fields are at most 40", own <= 40, true);
    }

    private static void classItself() {
        Class<?> c = OutcomeDesk.class;
        due.due("public and final", Modifier.isPublic(c.getModifiers()) && Modifier.isFinal(c.getModifiers()), true);
        due.due("no class above or beside", c.getSuperclass() == Object.class && c.getInterfaces().length == 0, true);
        due.due("no class within", c.getDeclaredClasses().length, 0);
        due.due("no package", c.getPackageName().isEmpty(), true);
        Constructor<?>[] made = c.getDeclaredConstructors();
        due.due("one public constructor without parameters",
            made.length == 1 && Modifier.isPublic(made[0].getModifiers()) && made[0].getParameterCount() == 0, true);
    }

    private static void text(String source) {
        String code = source.replaceAll("(?s)/\\*.*?\\*/", "").replaceAll("//[^\n]*", "");
        for (String word : ("import package float double String Object Math Integer Long System Arrays null throw throws try "
            + "catch finally synchronized assert instanceof enum interface record var while do").split(" ")) {
            due.due("the word " + word, Pattern.compile("\\b" + word + "\\b").matcher(code).find(), false);
        }
        due.due("a lambda or method reference", code.contains("->") || code.contains("::"), false);
        due.due("a text or a character", code.contains("\"") || code.contains("'"), false);
        due.due("an array of arrays", Pattern.compile("\\[\\s*\\]\\s*\\[").matcher(code).find(), false);
        due.due("a division", Pattern.compile("[/%]").matcher(code).find(), false);
        Matcher array = Pattern.compile("(?m)^.*\\bnew\\b.*$").matcher(code);
        while (array.find()) {
            String line = array.group().strip();
            due.due("an array made in a field's initialiser: " + line,
                line.matches("private final (int|long)\\[\\] \\w+ = new \\1\\[[1-9]\\d*\\];"), true);
        }
        Matcher loop = Pattern.compile("\\bfor\\b[^{]*").matcher(code);
        while (loop.find()) {
            due.due("a loop with a counter against a bound: " + loop.group(),
                loop.group().matches("for \\(int (\\w+) = 0; \\1 < [A-Z]+; \\1\\+\\+\\) "), true);
        }
        methodsAreShort(code);
    }

    private static void methodsAreShort(String code) {
        Matcher method = Pattern.compile("(?sm)^    (public|private)[^;=]*?\\{\n.*?^    \\}").matcher(code);
        int found = 0;
        while (method.find()) {
            found++;
            due.due("lines are at most 60: " + method.group().split("\n")[0],
                method.group().split("\n").length <= 60, true);
        }
        int declared = OutcomeDesk.class.getDeclaredMethods().length + OutcomeDesk.class.getDeclaredConstructors().length;
        due.due("methods looked at", found, declared);
    }
}
