import java.io.IOException;
import java.nio.file.Files;
import java.nio.file.Path;
import java.util.List;
import java.util.TreeSet;
import java.util.regex.Matcher;
import java.util.regex.Pattern;
import java.util.stream.Stream;

/** The rows of README.md on the tests: which there are, and which promises and sections each one holds. */
final class TestRows {

    private static final Path TESTS = Path.of("src/test/java");
    private static final Pattern LABEL = Pattern.compile("\"(\\d+(?:, \\d+)*): ");
    private static final Pattern EDGE = Pattern.compile("edge\\.(term|promise)\\((\\d+), ");
    private static final Pattern OTHER_EDGE = Pattern.compile("edge\\.begin\\(\"([^\"]*)\"");

    private final Check check;
    private final TreeSet<String> named = new TreeSet<>();
    private final TreeSet<Integer> promises = new TreeSet<>();

    TestRows(Check check) {
        this.check = check;
    }

    /** A test tells in each of its labels which promises are asked for. */
    void holdTest(List<String> row) throws IOException {
        String name = Page.ticked(row.get(0)).get(0);
        named.add(name);
        if (row.get(1).equals("all")) {
            return;
        }
        String[] ends = row.get(1).split(" to ");
        TreeSet<Integer> held = new TreeSet<>();
        Matcher label = LABEL.matcher(source(name));
        while (label.find()) {
            Stream.of(label.group(1).split(", ")).forEach(number -> held.add(Integer.valueOf(number)));
        }
        for (int promise = Integer.parseInt(ends[0]); promise <= Integer.parseInt(ends[1]); promise++) {
            check.is(name + " tests promise " + promise, held.contains(promise), true);
            check.is("promise " + promise + " has one test", promises.add(promise), true);
        }
    }

    void holdEdges(List<String> row) throws IOException {
        String name = Page.ticked(row.get(0)).get(0);
        named.add(name);
        String source = source(name);
        TreeSet<Integer> terms = new TreeSet<>();
        TreeSet<Integer> held = new TreeSet<>();
        Matcher edge = EDGE.matcher(source);
        while (edge.find()) {
            (edge.group(1).equals("term") ? terms : held).add(Integer.valueOf(edge.group(2)));
        }
        Matcher other = OTHER_EDGE.matcher(source);
        StringBuilder told = new StringBuilder(other.find() ? other.group(1) : "");
        if (!terms.isEmpty()) {
            told.append(told.length() > 0 ? ", " : "").append("Terms ").append(terms.toString().replaceAll("[\\[\\]]", ""));
        }
        if (!held.isEmpty()) {
            boolean isWhole = held.last() - held.first() + 1 == held.size();
            told.append(told.length() > 0 ? ", " : "").append("promises ");
            told.append(isWhole ? held.first() + " to " + held.last() : held.toString());
        }
        check.is("what " + name + " holds", row.get(1), told.toString());
    }

    void holdAll() throws IOException {
        check.is("the tests", named, names("(Test|Edges)"));
        check.is("the promises that have a test", promises.size(), 53);
    }

    /** Whether these lines stand in a test, one behind the other. */
    static boolean stand(List<String> lines) throws IOException {
        String wanted = Doc.plain(String.join(" ", lines));
        for (String name : names("")) {
            if (Doc.plain(source(name)).contains(wanted)) {
                return true;
            }
        }
        return false;
    }

    private static String source(String name) throws IOException {
        return Files.readString(TESTS.resolve(name + ".java"));
    }

    private static TreeSet<String> names(String ending) throws IOException {
        TreeSet<String> found = new TreeSet<>();
        Pattern wanted = Pattern.compile("(\\w*" + ending + ")\\.java");
        try (Stream<Path> all = Files.list(TESTS)) {
            for (Path file : all.toList()) {
                Matcher name = wanted.matcher(file.getFileName().toString());
                if (name.matches()) {
                    found.add(name.group(1));
                }
            }
        }
        return found;
    }
}
