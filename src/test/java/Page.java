import java.io.IOException;
import java.nio.file.Files;
import java.nio.file.Path;
import java.util.ArrayList;
import java.util.Arrays;
import java.util.List;

/** The rows of README.md: those of its tables, its lines of code and its dashes. */
final class Page {

    /** A table: its head, and the cells of each row below. */
    record Table(String head, List<List<String>> rows) {
    }

    private static final String CODE = "    ";
    private static final String DASH = "- ";

    final List<Table> tables = new ArrayList<>();
    final List<String> code = new ArrayList<>();
    final List<String> dashes = new ArrayList<>();

    Page() throws IOException {
        String before = "";
        for (String line : Files.readAllLines(Path.of("README.md"))) {
            if (line.startsWith("|")) {
                addRow(line, before.startsWith("|"));
            } else if (line.startsWith(CODE)) {
                code.add(line.trim());
            } else if (line.startsWith(DASH)) {
                dashes.add(line.substring(DASH.length()));
            } else if (line.startsWith("  ")) {
                dashes.add(dashes.remove(dashes.size() - 1) + " " + line.trim());
            }
            before = line;
        }
    }

    private void addRow(String line, boolean goesOn) {
        List<String> cells = cells(line);
        if (!goesOn) {
            tables.add(new Table(String.join(" | ", cells), new ArrayList<>()));
        } else if (!cells.get(0).equals("---")) {
            tables.get(tables.size() - 1).rows().add(cells);
        }
    }

    private static List<String> cells(String line) {
        String inside = line.substring(1, line.lastIndexOf('|'));
        return Arrays.stream(inside.split("\\|", -1)).map(String::trim).toList();
    }

    /** What stands between the ticks of a cell. */
    static List<String> ticked(String cell) {
        List<String> found = new ArrayList<>();
        String[] parts = cell.split("`", -1);
        for (int i = 1; i < parts.length; i += 2) {
            found.add(parts[i]);
        }
        return found;
    }
}
