import java.io.IOException;
import java.lang.reflect.Constructor;
import java.lang.reflect.Field;
import java.lang.reflect.Method;
import java.lang.reflect.Modifier;
import java.nio.file.Files;
import java.nio.file.Path;
import java.util.Map;
import java.util.Set;
import java.util.TreeMap;
import java.util.TreeSet;
import java.util.regex.Matcher;
import java.util.regex.Pattern;

/** The public face of the document, and those rules of LANGUAGE.md that can be seen in the text. */
public final class LanguageTest {
    private static final Set<String> FACE = Set.of(
        "int condition(int, int, int)", "int program(int, int, int, int)", "boolean holds(int, int)", "int drop()",
        "int count(int, int, int)", "int first(int, int, int)", "boolean is(int, int, int, int)",
        "int ends(int, int)", "int end(int, int, int)", "int after(int, int)", "boolean refines(int, int)",
        "boolean same(int, int)", "boolean level(int)");

    private static final Path DOCUMENT = Path.of("../shared/DOC.md");

    private static final Due due = new Due();

    public static void main(String[] args) throws IOException {
        methods();
        faceOfTheDocument();
        fields();
        classItself();
        text(Files.readString(Path.of("src/main/java/OutcomeDesk.java")));
        due.finish();
    }

    private static void methods() {
        Set<String> found = new TreeSet<>();
        Set<String> names = new TreeSet<>();
        for (Method m : OutcomeDesk.class.getDeclaredMethods()) {
            if (Modifier.isPublic(m.getModifiers())) {
                String types = m.toString().replaceAll(".*\\(|\\).*", "").replace(",", ", ");
                found.add(m.getReturnType() + " " + m.getName() + "(" + types + ")");
                names.add(m.getName());
                due.due(m + " is an object's", Modifier.isStatic(m.getModifiers()), false);
            }
        }
        due.due("public methods " + found, found.equals(FACE), true);
        for (Method m : OutcomeDesk.class.getDeclaredMethods()) {
            due.due("parameters of " + m + " are at most 7", m.getParameterCount() <= 7, true);
            if (!Modifier.isPublic(m.getModifiers())) {
                due.due(m + " is private", Modifier.isPrivate(m.getModifiers()), true);
                due.due(m + " has a name of its own", names.contains(m.getName()), false);
            }
        }
    }

    /** That FACE and the constants are those that the document has, in case it changes. */
    private static void faceOfTheDocument() throws IOException {
        if (!Files.isRegularFile(DOCUMENT)) {
            System.out.println("there is no " + DOCUMENT + ": the public face is not compared with it");
            return;
        }
        String face = new Document(DOCUMENT).section("The public face");
        Set<String> found = new TreeSet<>();
        Matcher method = Pattern.compile("public (\\w+ \\w+\\()([^)]*\\));").matcher(face);
        while (method.find()) {
            found.add(method.group(1) + method.group(2).replaceAll(" \\w+([,)])", "$1"));
        }
        due.due("methods of the document " + found, found.equals(FACE), true);
        due.due("BAD", face.contains("int BAD = " + OutcomeDesk.BAD + ";"), true);
        due.due("FULL", face.contains("int FULL = " + OutcomeDesk.FULL + ";"), true);
        due.due("NONE", face.contains("int NONE = " + OutcomeDesk.NONE + ";"), true);
    }

    private static void fields() {
        int own = 0;
        for (Field f : OutcomeDesk.class.getDeclaredFields()) {
            boolean constant = Set.of("BAD", "FULL", "NONE").contains(f.getName());
            due.due(f + " is public", Modifier.isPublic(f.getModifiers()), constant);
            due.due(f + " is private", Modifier.isPrivate(f.getModifiers()), !constant);
            if (Modifier.isStatic(f.getModifiers())) {
                boolean number = f.getType() == int.class || f.getType() == long.class;
                due.due(f + " is a constant number", number && Modifier.isFinal(f.getModifiers()), true);
            } else {
                own++;
                Class<?> type = f.getType().isArray() ? f.getType().getComponentType() : f.getType();
                due.due(f + " is of a number type", type.isPrimitive() && type != float.class && type != double.class, true);
            }
        }
        due.due("fields are at most 40", own <= 40, true);
    }

    private static void classItself() {
        Class<?> c = OutcomeDesk.class;
        due.due("public and final", Modifier.isPublic(c.getModifiers()) && Modifier.isFinal(c.getModifiers()), true);
        due.due("no class above or beside", c.getSuperclass() == Object.class && c.getInterfaces().length == 0, true);
        due.due("no class within", c.getDeclaredClasses().length, 0);
        due.due("no package", c.getPackageName().isEmpty(), true);
        Constructor<?>[] made = c.getDeclaredConstructors();
        due.due("one public constructor without parameters",
            made.length == 1 && Modifier.isPublic(made[0].getModifiers()) && made[0].getParameterCount() == 0, true);
    }

    private static void text(String source) {
        String code = source.replaceAll("(?s)/\\*.*?\\*/", "").replaceAll("//[^\n]*", "");
        for (String word : ("import package float double String Object Math Integer Long System Arrays null throw throws try "
            + "catch finally synchronized assert instanceof").split(" ")) {
            due.due("the word " + word, Pattern.compile("\\b" + word + "\\b").matcher(code).find(), false);
        }
        due.due("a lambda or method reference", code.contains("->") || code.contains("::"), false);
        due.due("a text", code.contains("\""), false);
        due.due("an array of arrays", Pattern.compile("\\[\\s*\\]\\s*\\[").matcher(code).find(), false);
        due.due("a loop without a bound",
            Pattern.compile("for \\([^;]*;\\s*;|while \\(\\s*true").matcher(code).find(), false);
        Matcher array = Pattern.compile("\\bnew\\b[^;]*").matcher(code);
        while (array.find()) {
            due.due("an array with a length that is a literal or a constant: " + array.group(),
                array.group().matches("new (int|long|short|byte|char|boolean)\\[([1-9]\\d*|[A-Z_]+)\\]"), true);
        }
        Map<String, String> bodies = bodies(code);
        bodies.forEach(LanguageTest::method);
        Map<String, Set<String>> calls = calls(bodies);
        for (String name : bodies.keySet()) {
            due.due("calls from " + name + " go at most six deep, and never round", depth(name, calls, 1) <= 6, true);
        }
    }

    /** Each method's name, with its text from the name on; the constructor is not among them. */
    private static Map<String, String> bodies(String code) {
        Map<String, String> bodies = new TreeMap<>();
        Matcher method = Pattern.compile("(?sm)^    (?:public|private)(?: static)? \\w+ (\\w+)(\\([^;=]*?\\{\n.*?)^    \\}").matcher(code);
        while (method.find()) {
            bodies.put(method.group(1), method.group(2));
        }
        due.due("methods looked at", bodies.size(), OutcomeDesk.class.getDeclaredMethods().length);
        return bodies;
    }

    private static void method(String name, String body) {
        due.due("lines of " + name + " are at most 60", body.lines().count() <= 60, true);
        due.due(name + " makes an array", Pattern.compile("\\bnew\\b").matcher(body).find(), false);
        String inside = body.replaceAll("\\b(if|for|while|switch|return) ?\\(", " (");
        Matcher call = Pattern.compile("\\b\\w+\\(").matcher(inside);
        while (call.find()) {
            String arguments = argumentsFrom(inside, call.end());
            due.due("a call inside the arguments of another in " + name + ": " + call.group() + arguments,
                Pattern.compile("\\w\\(").matcher(arguments).find(), false);
        }
    }

    private static String argumentsFrom(String text, int start) {
        int open = 1;
        int at = start;
        while (open > 0) {
            char sign = text.charAt(at);
            open += sign == '(' ? 1 : sign == ')' ? -1 : 0;
            at++;
        }
        return text.substring(start, at - 1);
    }

    private static Map<String, Set<String>> calls(Map<String, String> bodies) {
        Map<String, Set<String>> calls = new TreeMap<>();
        bodies.forEach((name, body) -> {
            Set<String> called = new TreeSet<>();
            Matcher call = Pattern.compile("\\b(\\w+)\\(").matcher(body);
            while (call.find()) {
                if (bodies.containsKey(call.group(1))) {
                    called.add(call.group(1));
                }
            }
            calls.put(name, called);
        });
        return calls;
    }

    /** How many methods stand on each other at most, from this one on; counting stops where it is too deep already. */
    private static int depth(String name, Map<String, Set<String>> calls, int soFar) {
        int deepest = soFar;
        if (soFar <= 6) {
            for (String called : calls.get(name)) {
                deepest = Math.max(deepest, depth(called, calls, soFar + 1));
            }
        }
        return deepest;
    }
}
