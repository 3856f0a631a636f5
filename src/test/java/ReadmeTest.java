import java.io.IOException;
import java.nio.file.Files;
import java.nio.file.Path;
import java.util.ArrayList;
import java.util.List;
import java.util.regex.Matcher;
import java.util.regex.Pattern;

/** Each row of README.md holds by the document and by the class: its tables, its lines of code and its dashes. */
public final class ReadmeTest {

    private static final Pattern FED = Pattern.compile("feed\\(x, \"(.*)\"\\);\\s+// (.*)");
    private static final Pattern CALLED = Pattern.compile("x\\.(\\w+\\(.*\\));\\s+// (.*)");
    private static final String COMPILED =
            "javac -d /tmp/out src/main/java/TypebarMachine.java src/test/java/*.java && java -cp /tmp/out KeysTest";

    private final Check check = new Check("ReadmeTest");
    private final Page page = new Page();
    private final Doc doc = new Doc();
    private final String machine = page.code.get(0);
    private final MachineRows machineRows = new MachineRows(check, doc, machine);
    private final KeyRows keyRows = new KeyRows(check, doc, machine);
    private final CallRows callRows = new CallRows(check, doc, machine);
    private final TestRows testRows = new TestRows(check);
    private final List<String> fed = new ArrayList<>();
    /** Lines that show how a test or a helper is written, as they stand there. */
    private final List<String> shown = new ArrayList<>();
    private TypebarMachine x;

    private ReadmeTest() throws IOException {
    }

    public static void main(String[] args) throws Exception {
        ReadmeTest test = new ReadmeTest();
        test.holdDashes();
        for (String line : test.page.code) {
            test.holdCode(line);
        }
        test.endShown();
        test.check.is("the text that is loaded", test.fed.get(0), test.machine);
        for (Page.Table table : test.page.tables) {
            for (List<String> row : table.rows()) {
                test.holdRow(table.head(), row);
            }
        }
        test.machineRows.holdAll();
        test.keyRows.holdAll();
        test.callRows.holdAll();
        test.testRows.holdAll();
        test.check.end();
    }

    private void holdDashes() {
        for (String words : page.dashes) {
            check.is("\"" + words + "\" stands in the document", doc.says(words), true);
        }
    }

    private void holdRow(String head, List<String> row) throws Exception {
        switch (head) {
            case "setting | name | bounds | what it is | above | can be changed by" -> machineRows.holdSetting(row);
            case "line | number | bounds | what it gives" -> machineRows.holdLine(row);
            case "error | what is wrong | a text | position" -> machineRows.holdError(row);
            case "byte | key | call | may fail for" -> keyRows.holdBytes(row);
            case "reason | why a key fails | texts to type" -> keyRows.holdReason(row);
            case "promise | call | answer | throws" -> callRows.holdCall(row);
            case "argument | of | least | greatest | exception" -> callRows.holdArgument(row);
            case "call | exception | when" -> callRows.holdRefused(row);
            case "test | promises | what it tests" -> testRows.holdTest(row);
            case "tests of edges | sections of the document" -> testRows.holdEdges(row);
            default -> check.is("a table with the head " + head, "not known", "known");
        }
    }

    private void holdCode(String line) throws Exception {
        Matcher feeding = FED.matcher(line);
        Matcher calling = CALLED.matcher(line);
        if (line.equals("TypebarMachine x = new TypebarMachine();")) {
            x = new TypebarMachine();
        } else if (feeding.matches()) {
            fed.add(feeding.group(1));
            check.is(line, "" + Rig.feed(x, feeding.group(1)), dueOf(feeding.group(2)));
        } else if (calling.matches()) {
            check.is(line, Called.on(x, calling.group(1)), dueOf(calling.group(2)));
        } else if (line.equals(".ci/run")) {
            check.is(line + " can be run", Files.isExecutable(Path.of(line)), true);
        } else if (!line.equals(machine) && !line.equals(COMPILED)) {
            shown.add(line);
            return;
        }
        endShown();
    }

    private static String dueOf(String comment) {
        return comment.split(", ")[0];
    }

    private void endShown() throws IOException {
        check.is(shown + " stands in a test", TestRows.stand(shown), true);
        shown.clear();
    }
}
