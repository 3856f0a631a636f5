import java.io.IOException;
import java.nio.file.Files;
import java.nio.file.Path;
import java.util.ArrayList;
import java.util.Collections;
import java.util.LinkedHashMap;
import java.util.List;
import java.util.Map;
import java.util.TreeSet;
import java.util.regex.Matcher;
import java.util.regex.Pattern;

/** The rows of README.md on calls: what each answers, the bounds of its arguments, and what it throws. */
final class CallRows {

    private static final Pattern HEAD = Pattern.compile("public \\w+ (\\w+)\\(([^)]*)\\)(?: throws ([\\w, ]+))?;");
    private static final Map<String, String> LETTERS = Map.of("S", "IllegalStateException",
            "I", "IndexOutOfBoundsException", "A", "IllegalArgumentException");
    private static final String UNBOUND = "append a, append b, append c, append d, append e, barOf letter, letters letter, "
            + "set value";

    private final Check check;
    private final Doc doc;
    private final String machine;
    /** Each call as the document prints it, and what it throws. */
    private final Map<String, String> face = new LinkedHashMap<>();
    private final List<String> calls = new ArrayList<>();
    private final List<String> refused = new ArrayList<>();
    private final TreeSet<String> bound = new TreeSet<>();

    CallRows(Check check, Doc doc, String machine) throws IOException {
        this.check = check;
        this.doc = doc;
        this.machine = machine;
        for (String line : Files.readAllLines(Path.of("../shared/DOC.md"))) {
            Matcher head = HEAD.matcher(line.trim());
            if (head.matches()) {
                String call = head.group(1) + "(" + head.group(2).replaceAll("\\w+ (\\w+)", "$1") + ")";
                face.put(call, head.group(3) == null ? "" : head.group(3));
            }
        }
    }

    void holdCall(List<String> row) throws ReflectiveOperationException {
        String call = Page.ticked(row.get(1)).get(0);
        calls.add(call);
        check.is("the promise of " + call, row.get(0), "" + promiseOf(call));
        for (String words : row.get(2).split("<br>")) {
            check.is("the document on " + call + ", " + words, doc.says("promise " + row.get(0), words), true);
        }
        String thrown = row.get(3).isEmpty() ? "" : thrownBy(row.get(3));
        check.is(call + " throws", thrown, face.getOrDefault(call, "nothing that the document knows"));
        String first = "throws " + thrown.split(", ")[0];
        String got = Called.on(new TypebarMachine(), given(call, -1));
        check.is(call + " without a machine, by wrong arguments", got.startsWith("throws") ? got : "throws ", first);
    }

    private static String thrownBy(String letters) {
        List<String> names = new ArrayList<>();
        for (String letter : letters.split(", ")) {
            names.add(LETTERS.getOrDefault(letter, letter));
        }
        return String.join(", ", names);
    }

    /** The promise 1 is the constructor, which the face tells otherwise. */
    private int promiseOf(String call) {
        return new ArrayList<>(face.keySet()).indexOf(call) + 2;
    }

    private static String given(String call, int value) {
        List<String> given = new ArrayList<>();
        for (Class<?> type : Called.method(Called.nameOf(call)).getParameterTypes()) {
            given.add(type == boolean.class ? "true" : "" + value);
        }
        return Called.nameOf(call) + "(" + String.join(", ", given) + ")";
    }

    void holdArgument(List<String> row) throws ReflectiveOperationException {
        String argument = row.get(0);
        for (String call : Page.ticked(row.get(1))) {
            bound.add(Called.nameOf(call) + " " + argument);
            check.is(call + " throws " + row.get(4), throwsOf(call).contains(row.get(4)), true);
            // With BELL 0 the other one of two bounds of a margin is the narrower one.
            for (int bell = 0; bell <= 3; bell++) {
                int least = Bounds.least(prepared(bell), row.get(2));
                int greatest = Bounds.greatest(prepared(bell), row.get(3));
                for (int value : List.of(least, (least + greatest) / 2, greatest)) {
                    String got = Called.on(prepared(bell), Called.with(call, argument, value));
                    check.is(call + ", " + value + " is refused", got.equals("throws " + row.get(4)), false);
                }
                for (int value : List.of(least - 1, greatest + 1, Integer.MIN_VALUE, Integer.MAX_VALUE)) {
                    String got = Called.on(prepared(bell), Called.with(call, argument, value));
                    check.is(call + ", " + value, got, "throws " + row.get(4));
                }
            }
        }
    }

    private String throwsOf(String call) {
        for (Map.Entry<String, String> known : face.entrySet()) {
            if (Called.nameOf(known.getKey()).equals(Called.nameOf(call))) {
                return known.getValue();
            }
        }
        return "";
    }

    /** Bytes in the buffer, a text that was written, both slots filled. */
    private TypebarMachine prepared(int bell) {
        TypebarMachine x = Rig.loaded(machine);
        x.set(4, bell);
        x.writeRuler();
        x.save(0);
        x.save(1);
        Rig.feed(x, "ab");
        return x;
    }

    void holdRefused(List<String> row) throws ReflectiveOperationException {
        String call = Page.ticked(row.get(0)).get(0);
        refused.add(Called.nameOf(call));
        check.is(call, Called.on(Rig.loaded(machine), call), "throws " + row.get(1));
        boolean isTold = false;
        for (String known : face.keySet()) {
            boolean isIt = Called.nameOf(known).equals(Called.nameOf(call));
            isTold |= isIt && doc.says("promise " + promiseOf(known), "Throws `" + row.get(1) + "` if " + row.get(2));
        }
        check.is("the document on " + call + ", " + row.get(2), isTold, true);
    }

    /** Each call of the document has its row, in its order, and each number that is given has bounds or has none. */
    void holdAll() {
        check.is("the calls", calls, new ArrayList<>(face.keySet()));
        TreeSet<String> numbers = new TreeSet<>();
        for (String call : face.keySet()) {
            Class<?>[] types = Called.method(Called.nameOf(call)).getParameterTypes();
            for (int i = 0; i < types.length; i++) {
                if (types[i] == int.class) {
                    numbers.add(Called.nameOf(call) + " " + Called.argumentsOf(call).get(i));
                }
            }
        }
        Collections.addAll(bound, UNBOUND.split(", "));
        check.is("the arguments with bounds and without", bound, numbers);
        check.is("the calls that are refused besides", refused, List.of("load", "set", "undo", "restore", "textByte"));
    }
}
