import java.io.IOException;
import java.nio.file.Files;
import java.nio.file.Path;
import java.util.ArrayList;
import java.util.LinkedHashMap;
import java.util.List;
import java.util.Map;
import java.util.regex.Matcher;
import java.util.regex.Pattern;

/** The words of ../shared/DOC.md by its sections, so that a test can name the sentence that it holds. */
final class Doc {

    private static final Pattern TERM = Pattern.compile("(\\d)\\. .*");
    private static final Pattern PROMISE = Pattern.compile("## Promise (\\d+): .*");
    private static final String SIGNATURE = "^`[^`]*`: ";

    private final Map<String, String> sections = new LinkedHashMap<>();

    Doc() throws IOException {
        String section = "";
        boolean code = false;
        for (String line : Files.readAllLines(Path.of("../shared/DOC.md"))) {
            String before = section;
            section = sectionFrom(line, section);
            boolean isHeading = line.startsWith("#") || !section.equals(before);
            code ^= line.startsWith("```");
            if (!code && !isHeading && !line.startsWith("```")) {
                String told = section.startsWith("promise") ? line.replaceFirst(SIGNATURE, "") : line;
                sections.merge(section, told + "\n", String::concat);
            }
        }
    }

    private static String sectionFrom(String line, String section) {
        Matcher promise = PROMISE.matcher(line);
        if (promise.matches()) {
            return "promise " + promise.group(1);
        }
        if (line.startsWith("#")) {
            return line.replaceAll("#+ ", "");
        }
        Matcher term = TERM.matcher(line);
        boolean inTerms = section.startsWith("Terms") || section.startsWith("term ");
        return inTerms && term.matches() ? "term " + term.group(1) : section;
    }

    boolean says(String section, String words) {
        return plain(sections.getOrDefault(section, "")).contains(plain(words));
    }

    /** Whether the words stand in any section. */
    boolean says(String words) {
        return sections.keySet().stream().anyMatch(section -> says(section, words));
    }

    /** Whether any section has words of this pattern. */
    boolean has(Pattern words) {
        return sections.values().stream().anyMatch(said -> words.matcher(plain(said)).find());
    }

    Iterable<String> sections() {
        return sections.keySet();
    }

    /** A sentence ends at its point; each line of a list is one, too. */
    List<String> sentences(String section) {
        List<String> found = new ArrayList<>();
        for (String part : sections.getOrDefault(section, "").split("\n\n|\n(?=- )")) {
            for (String sentence : plain(part).split("(?<=\\.)\\)? (?=[A-Z(])")) {
                if (!sentence.isBlank()) {
                    found.add(sentence.trim());
                }
            }
        }
        return found;
    }

    static String plain(String words) {
        return words.replaceAll("\\s+", " ").trim();
    }
}
