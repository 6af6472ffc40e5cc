import java.io.IOException;
import java.lang.reflect.InvocationTargetException;
import java.lang.reflect.Method;
import java.nio.file.Files;
import java.nio.file.Path;
import java.util.ArrayList;
import java.util.Arrays;
import java.util.Comparator;
import java.util.List;
import java.util.Map;
import java.util.TreeMap;

/**
 * Runs every test that stands at a Sentence, each by itself. The tests quote the whole of the Terms
 * and of each promise, so that a sentence without a test of its own is found here.
 */
public final class BoundariesTest {
    private static final List<Class<?>> CASES = List.of(TermsCases.class, MakingCases.class, AskingCases.class);
    private static final Path DOCUMENT = Path.of("../shared/DOC.md");
    private static final int PROMISES = 14;

    private static final Due due = new Due();

    public static void main(String[] args) throws IOException, IllegalAccessException {
        List<Method> tests = tests();
        for (Method test : tests) {
            run(test);
        }
        Map<String, List<String>> quotes = quotes(tests);
        due.begin("sections with tests");
        due.due("number", quotes.keySet().stream().filter(in -> in.startsWith("Promise ")).count(), PROMISES);
        if (Files.isRegularFile(DOCUMENT)) {
            compareWithDocument(new Document(DOCUMENT), quotes);
        } else {
            System.out.println("there is no " + DOCUMENT + ": the words are not compared");
        }
        System.out.println(tests.size() + " sentences");
        due.finish();
    }

    private static List<Method> tests() {
        List<Method> tests = new ArrayList<>();
        for (Class<?> cases : CASES) {
            Arrays.stream(cases.getDeclaredMethods()).filter(m -> m.isAnnotationPresent(Sentence.class))
                .sorted(Comparator.comparing(Method::getName)).forEach(tests::add);
        }
        return tests;
    }

    private static void run(Method test) throws IllegalAccessException {
        Sentence sentence = test.getAnnotation(Sentence.class);
        due.begin(sentence.in() + " (" + test.getName() + "): \"" + sentence.words() + "\"");
        int before = due.asked();
        try {
            test.invoke(null, due);
        } catch (InvocationTargetException e) {
            due.due("no call may throw, but " + e.getCause(), true, false);
        }
        due.due("the test asks something", due.asked() > before, true);
    }

    private static Map<String, List<String>> quotes(List<Method> tests) {
        Map<String, List<String>> quotes = new TreeMap<>();
        for (Method test : tests) {
            Sentence sentence = test.getAnnotation(Sentence.class);
            quotes.computeIfAbsent(sentence.in(), in -> new ArrayList<>()).add(sentence.words());
        }
        return quotes;
    }

    private static void compareWithDocument(Document document, Map<String, List<String>> quotes) {
        quotes.forEach((in, words) -> {
            due.begin(in);
            String section = document.section(in);
            for (String quote : words) {
                due.due("the section has the words: " + quote, section.contains(quote), true);
            }
            if (!in.equals("What it is")) {
                String left = Document.left(section, words);
                due.due("without a test: " + left, left.isEmpty(), true);
            }
        });
    }
}
