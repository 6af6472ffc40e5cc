import java.io.IOException;
import java.nio.file.Files;
import java.nio.file.Path;
import java.util.List;

/** The sections of the document, to see that the tests quote it rightly and leave no sentence out. */
final class Document {
    private final String text;

    Document(Path path) throws IOException {
        text = "\n" + Files.readString(path);
    }

    /** The section's words on one line, without the signature that a promise begins with. */
    String section(String heading) {
        int start = text.indexOf("\n## " + heading + "\n");
        if (start < 0) {
            return "";
        }
        String rest = text.substring(start + heading.length() + 5);
        int next = rest.indexOf("\n## ");
        String section = next < 0 ? rest : rest.substring(0, next);
        return section.replaceAll("```\\w*", " ").replaceFirst("^\\s*`[^`]*`:", "").replaceAll("\\s+", " ");
    }

    /** What is left of a section when the quoted words are taken out; "" if nothing but signs is left. */
    static String left(String section, List<String> quotes) {
        boolean[] quoted = new boolean[section.length()];
        for (String quote : quotes) {
            for (int at = section.indexOf(quote); at >= 0; at = section.indexOf(quote, at + 1)) {
                for (int i = at; i < at + quote.length(); i++) {
                    quoted[i] = true;
                }
            }
        }
        StringBuilder left = new StringBuilder();
        for (int i = 0; i < section.length(); i++) {
            left.append(quoted[i] ? ' ' : section.charAt(i));
        }
        return left.toString().matches("[^A-Za-z0-9]*") ? "" : left.toString().replaceAll("\\s+", " ").strip();
    }
}
