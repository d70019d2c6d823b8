import java.io.IOException;
import java.io.UncheckedIOException;
import java.nio.file.Files;
import java.nio.file.Path;
import java.util.Map;
import java.util.TreeMap;

/** The document's words, section by section, so that a test can name the sentence that it is of. */
final class Doc {
    private static final Map<String, String> SECTIONS = read();

    private Doc() {
    }

    private static Map<String, String> read() {
        Map<String, String> sections = new TreeMap<>();
        try {
            for (String section : Files.readString(Path.of("../shared/DOC.md")).split("(?m)^## ")) {
                String title = section.lines().findFirst().orElse("");
                sections.put(title.replaceAll(":.*", ""), plain(section.substring(title.length())));
            }
        } catch (IOException e) {
            throw new UncheckedIOException(e);
        }
        return sections;
    }

    /** Where a line of the document ends says nothing. */
    static String plain(String words) {
        return words.replaceAll("\\s+", " ").trim();
    }

    /** A section's words: "Terms", "Promise 1" and so on. */
    static String section(String name) {
        return SECTIONS.getOrDefault(name, "");
    }

    static boolean says(String section, String words) {
        return section(section).contains(plain(words));
    }
}
