import java.nio.file.Files;
import java.nio.file.Path;
import java.util.ArrayList;
import java.util.Comparator;
import java.util.List;
import java.util.Map;
import java.util.TreeMap;
import java.util.regex.Matcher;
import java.util.regex.Pattern;
import java.util.stream.Stream;

/** That no sentence of "Terms" and of promises 1 to 49 is without a test in the *EdgesTest files. */
public final class SentencesTest {
    private static final Pattern SENTENCE = Pattern.compile("sentence\\(\"([^\"]*)\", \"([^\"]*)\"\\)");

    private SentencesTest() {
    }

    public static void main(String[] args) throws Exception {
        Map<String, List<String>> told = sentences();
        Check.holds("Terms", allTold(terms(), told.getOrDefault("Terms", List.of()), "Terms"));
        for (int promise = 1; promise <= 49; promise++) {
            String name = "Promise " + promise;
            String words = Doc.section(name).replaceFirst("^`[^`]*`:", "");
            Check.holds(name + " is in the document", !words.isEmpty());
            Check.holds(name, allTold(words, told.getOrDefault(name, List.of()), name));
        }
        Check.holds("there is no promise 50", Doc.section("Promise 50").isEmpty());
        Check.end();
    }

    /** The sentences that tests name, by section; one over several lines of a source is joined. */
    private static Map<String, List<String>> sentences() throws Exception {
        Map<String, List<String>> told = new TreeMap<>();
        try (Stream<Path> files = Files.list(Path.of("src/test/java"))) {
            for (Path file : files.filter(f -> f.toString().endsWith("EdgesTest.java")).toList()) {
                Matcher found = SENTENCE.matcher(Files.readString(file).replaceAll("\"\\s*\\+\\s*\"", ""));
                while (found.find()) {
                    told.computeIfAbsent(found.group(1), key -> new ArrayList<>()).add(Doc.plain(found.group(2)));
                }
            }
        }
        return told;
    }

    /** What terms say, without the marks between their parts and what the interface says. */
    private static String terms() {
        String all = Doc.section("Terms").replace("```text", "").replace("```", "").replaceAll("==== \\d\\.", "");
        return all.substring(0, all.indexOf("The constants:"));
    }

    /** Whether nothing is left when the sentences are taken away, the longest first. */
    private static boolean allTold(String words, List<String> sentences, String where) {
        String rest = words;
        List<String> longest = new ArrayList<>(sentences);
        longest.sort(Comparator.comparing(String::length).reversed());
        for (String sentence : longest) {
            rest = rest.replace(sentence, " ");
        }
        if (rest.matches("(?s).*\\w.*")) {
            System.out.println(where + " has no test of: " + Doc.plain(rest));
            return false;
        }
        return true;
    }
}
