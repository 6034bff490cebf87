import java.io.IOException;
import java.nio.file.Files;
import java.nio.file.Path;
import java.util.ArrayList;
import java.util.LinkedHashMap;
import java.util.List;
import java.util.Map;

/**
 * The clauses of ../shared/DOC.md, by their sections: what stands between two full stops or semicolons.
 * A section is "Promise 2", or a heading of the description such as "CIRCLES".
 */
final class Document {
    private static final Path FILE = Path.of("../shared/DOC.md");

    private final Map<String, List<String>> clauses = new LinkedHashMap<>();
    private String section = "";

    Document() {
        try {
            for (String paragraph : Files.readString(FILE).split("\n\\s*\n")) {
                take(paragraph.strip());
            }
        } catch (IOException e) {
            throw new IllegalStateException("there is no " + FILE, e);
        }
    }

    private void take(String paragraph) {
        if (paragraph.startsWith("#")) {
            section = paragraph.replaceFirst("^#+ *", "").replaceFirst(":.*", "");
        } else if (paragraph.matches("[A-Z]+")) {
            section = paragraph;
        } else if (paragraph.startsWith("- ")) {
            for (String line : paragraph.split("\n")) {
                split(line.substring(2));
            }
        } else if (!paragraph.startsWith("`") && !paragraph.startsWith("----")) {
            split(paragraph);
        }
    }

    private void split(String text) {
        List<String> all = clauses.computeIfAbsent(section, s -> new ArrayList<>());
        // a semicolon with a space before it is a sign of a text, and ends no clause
        for (String clause : text.replaceAll("\\s+", " ").split("(?<=[^ ])[.;]( |$)")) {
            all.add(clause);
        }
    }

    List<String> clausesOf(String section) {
        return clauses.getOrDefault(section, List.of());
    }

    Iterable<String> sections() {
        return clauses.keySet();
    }
}
