import java.util.ArrayList;
import java.util.List;
import java.util.TreeSet;

/** The rows of README.md on keys, the bytes that stand for them, and the reasons for which they fail. */
final class KeyRows {

    // Typed ahead: nothing, a strike just now, a jam, a lock, a lock that is released, the last line, much at once.
    private static final String[] AHEAD = {"", "a", "ab", ">> ", ">> ^", "//", "aB!/A9b^>>  <"};

    private final Check check;
    private final Doc doc;
    private final String machine;
    private final List<String> rows = new ArrayList<>();

    KeyRows(Check check, Doc doc, String machine) {
        this.check = check;
        this.doc = doc;
        this.machine = machine;
    }

    void holdBytes(List<String> row) throws ReflectiveOperationException {
        String bytes = row.get(0);
        rows.add(bytes);
        if (bytes.equals("other")) {
            holdNoKeys(row);
        } else if (bytes.equals("0 to 9")) {
            holdDigits(row);
        } else if (bytes.contains(" to ")) {
            String letters = bytes.equals("a to z") ? "ab" : "AB";
            check.is("the document on " + row.get(1), doc.says("term 4", row.get(1)), true);
            holdKey(letters, row);
        } else {
            int sign = Integer.parseInt(bytes.split(" ")[0]);
            String call = Page.ticked(row.get(2)).get(0);
            check.is("the sign of " + bytes, List.of("" + (char) sign).containsAll(Page.ticked(bytes)), true);
            check.is("the document on " + bytes, doc.says("term 4", "(" + sign + ") is " + row.get(1)), true);
            String key = Called.argumentsOf(call).get(0) + " " + row.get(1);
            check.is("the document on " + call, doc.says("promise 42", key), true);
            holdKey("" + (char) sign, row);
        }
    }

    /** Typed and pressed by itself, a key does the same, and fails for the reasons of the row. */
    private void holdKey(String letters, List<String> row) throws ReflectiveOperationException {
        TreeSet<String> reasons = new TreeSet<>();
        for (String ahead : AHEAD) {
            for (int bar = 0; bar < letters.length(); bar++) {
                TypebarMachine typed = at(ahead);
                TypebarMachine pressed = at(ahead);
                Rig.type(typed, letters.substring(bar, bar + 1));
                String reason = Called.on(pressed, Called.with(Page.ticked(row.get(2)).get(0), "bar", bar));
                String what = letters.charAt(bar) + " behind " + ahead;
                check.is("the reason of " + what, "" + typed.reason(), reason);
                check.is(what, withoutReasonAt(typed), withoutReasonAt(pressed));
                reasons.add(reason);
            }
        }
        reasons.remove("0");
        String told = reasons.isEmpty() ? "nothing" : String.join(", ", reasons);
        check.is("the reasons of " + row.get(1), told, row.get(3));
    }

    private TypebarMachine at(String ahead) {
        TypebarMachine x = Rig.loaded(machine);
        Rig.type(x, ahead);
        return x;
    }

    private static String withoutReasonAt(TypebarMachine x) {
        String told = Rig.all(x);
        return told.substring(0, told.lastIndexOf(' '));
    }

    private void holdDigits(List<String> row) {
        check.is("the document on digits", doc.says("term 4", row.get(1)), true);
        check.is("a digit is called by", row.get(2) + ", fails for " + row.get(3), "none, fails for nothing");
        for (String ahead : AHEAD) {
            for (int digit = 0; digit <= 9; digit++) {
                TypebarMachine x = at(ahead);
                int time = x.count(2);
                int keys = x.count(13);
                check.is(digit + " is done", Rig.type(x, "" + digit), 1);
                check.is("the time by " + digit, x.count(2) - time, 10 * digit);
                check.is("keys by " + digit, x.count(13) - keys, 0);
            }
        }
    }

    private void holdNoKeys(List<String> row) {
        check.is("other bytes are called by", row.get(2), "none");
        check.is("the document on other bytes", doc.says("term 4", row.get(1)), true);
        for (String ahead : AHEAD) {
            for (char sign = 0; sign < 256; sign++) {
                if ("abAB ><^/!0123456789".indexOf(sign) < 0) {
                    TypebarMachine x = at(ahead);
                    int time = x.count(2);
                    check.is((int) sign + " is no key", Rig.type(x, "" + sign), 0);
                    check.is("the reason of " + (int) sign, "" + x.reason(), row.get(3));
                    check.is("the time by " + (int) sign, x.count(2) - time, 0);
                }
            }
        }
    }

    void holdReason(List<String> row) {
        String reason = row.get(0);
        rows.add("reason " + reason);
        TypebarMachine x = Rig.loaded(machine);
        for (String text : Page.ticked(row.get(2))) {
            Rig.type(x, text);
        }
        check.is("the reason of " + row.get(2), "" + x.reason(), reason);
        boolean isTold = doc.says("reason " + reason + " if " + row.get(1))
                || doc.says(row.get(1) + ", fails for reason " + reason);
        check.is("the document on reason " + reason, isTold, true);
    }

    void holdAll() {
        check.is("bytes and reasons", String.join(", ", rows), "a to z, A to Z, 32, 62 `>`, 60 `<`, 47 `/`, 94 `^`, 33 `!`, "
                + "0 to 9, other, reason 1, reason 2, reason 3, reason 4, reason 5, reason 6");
    }
}
