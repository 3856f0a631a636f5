import java.util.ArrayList;
import java.util.List;
import java.util.regex.Matcher;
import java.util.regex.Pattern;

/** The rows of README.md on the text of a machine: its settings, its lines, its errors. */
final class MachineRows {

    private static final int IN_TEXT = 12;
    private static final int OUT_OF_BOUNDS = 2;
    private static final int TAKEN = 3;

    private final Check check;
    private final Doc doc;
    private final String machine;
    private final List<String> rows = new ArrayList<>();

    MachineRows(Check check, Doc doc, String machine) {
        this.check = check;
        this.doc = doc;
        this.machine = machine;
    }

    void holdSetting(List<String> row) throws ReflectiveOperationException {
        rows.add(row.get(0));
        int what = Integer.parseInt(row.get(0));
        String name = row.get(1);
        TypebarMachine x = Rig.loaded(machine);
        check.is("the number of " + name, doc.says("promise 8", what + " " + name), true);
        holdWords(name, row.get(2));
        check.is(name + " of the machine in the README", "" + x.setting(what), row.get(4));
        String[] ends = row.get(2).split(" to ");
        int least = Bounds.least(x, ends[0]);
        int greatest = Bounds.greatest(x, ends[1]);
        if (what < IN_TEXT) {
            holdInText(what, least, greatest);
        }
        holdSetter(what, row.get(5), least, greatest);
    }

    private void holdWords(String name, String bounds) {
        Pattern told = Pattern.compile(name + "( \\w+)? (is |\\()" + Pattern.quote(bounds));
        check.is("the document on " + name + ", " + bounds, doc.has(told), true);
    }

    /** A setting behind the one that is changed may not fit it any more; then the error stands there. */
    private void holdInText(int what, int least, int greatest) {
        Matcher numbers = Pattern.compile("\\d+").matcher(machine);
        for (int i = 0; i <= what; i++) {
            numbers.find();
        }
        int position = numbers.start();
        for (int value = Math.max(0, least - 1); value <= greatest + 1; value++) {
            TypebarMachine x = tried(machine.substring(0, position) + value + machine.substring(numbers.end()));
            boolean fits = value >= least && value <= greatest;
            check.is("setting " + what + ", " + value + " in a text fits", x.errorPosition() != position, fits);
        }
    }

    private void holdSetter(int what, String cell, int least, int greatest) throws ReflectiveOperationException {
        boolean isSet = cell.startsWith("`set(" + what + ", value)");
        for (int value = least - 1; value <= greatest + 1; value++) {
            TypebarMachine x = Rig.loaded(machine);
            boolean isThrown = Called.on(x, "set(" + what + ", " + value + ")").startsWith("throws");
            boolean fits = isSet && value >= least && value <= greatest;
            check.is("setting " + what + " can be set to " + value, isThrown, !fits);
        }
        if (cell.startsWith("`setMargin(")) {
            TypebarMachine x = Rig.loaded(machine);
            int next = x.setting(what) + 1;
            Called.on(x, Called.with(Page.ticked(cell).get(0), "column", next));
            check.is(cell + " sets the setting " + what, x.setting(what), next);
        } else {
            check.is("setting " + what + " is changed by " + cell, isSet || cell.equals("nothing"), true);
        }
    }

    void holdLine(List<String> row) {
        String[] words = Page.ticked(row.get(0)).get(0).split(" ");
        rows.add(words[0]);
        String line = "; " + String.join(" ", words);
        int number = Integer.parseInt(words[words.length - 1]);
        TypebarMachine x = Rig.loaded(machine + line);
        boolean isThere = words[0].equals("bar")
                ? x.bar(x.barOf(words[1].charAt(0)), 1) == number
                : x.isStop(number) && x.count(1) == 2;
        check.is(line + " is there", isThere, true);
        check.is(line + " twice", tried(machine + line + line).parseError(), TAKEN);
        holdWords(row.get(1), row.get(2));
        String[] ends = row.get(2).split(" to ");
        int greatest = Bounds.greatest(x, ends[1]);
        for (int value = Bounds.least(x, ends[0]); value <= greatest + 1; value++) {
            words[words.length - 1] = "" + value;
            String other = "; " + String.join(" ", words);
            check.is(other + " fits", tried(machine + other).parseError() != OUT_OF_BOUNDS, value <= greatest);
        }
    }

    void holdError(List<String> row) {
        rows.add("error " + row.get(0));
        String text = Page.ticked(row.get(2)).get(0).replaceFirst("^\\.\\.", machine);
        TypebarMachine x = tried(text);
        check.is("the error of " + text, x.parseError() + " at " + x.errorPosition(), row.get(0) + " at " + row.get(3));
        check.is("the document on " + row.get(1), doc.says("term 5", row.get(1)), true);
    }

    void holdAll() {
        check.is("settings, lines and errors", String.join(", ", rows), "0, 1, 2, 3, 4, 5, 6, 7, 8, 9, 10, 11, 12, bar, tab, "
                + "error 1, error 1, error 1, error 1, error 1, error 1, error 2, error 3, error 3");
    }

    private static TypebarMachine tried(String text) {
        TypebarMachine x = new TypebarMachine();
        try {
            Rig.load(x, text);
        } catch (IllegalArgumentException e) {
            // parseError() tells it.
        }
        return x;
    }
}
