import java.io.IOException;
import java.util.ArrayList;
import java.util.List;

/**
 * Tests of one sentence each: a test names the sentence of the document that it holds (section and words, which must
 * stand there), then asks for the value just inside the boundary, the value just outside it, and whether a call that
 * is refused has changed anything.
 */
final class Edge {

    interface Use {
        Object on(TypebarMachine x);
    }

    interface Maker {
        TypebarMachine make();
    }

    interface Given {
        Object on(TypebarMachine x, int value);
    }

    private static final int SIDES = 15;

    private final Check check = new Check("EdgesTest");
    private final Doc doc = new Doc();
    private final List<String> held = new ArrayList<>();
    private String sentence = "";
    private int answers = 1;

    Edge() throws IOException {
    }

    /** Begins the test of a sentence under "Terms". */
    void term(int section, String words) {
        begin("term " + section, words);
    }

    /** Begins the test of a sentence of a promise. */
    void promise(int number, String words) {
        begin("promise " + number, words);
    }

    void begin(String section, String words) {
        endSentence();
        sentence = section + ", \"" + Doc.plain(words) + "\"";
        held.add(section + "|" + Doc.plain(words));
        check.is(sentence + " stands in the document", doc.says(section, words), true);
        answers = 0;
    }

    void is(String what, Object got, Object due) {
        answers++;
        check.is(sentence + ": " + what, got, due);
    }

    /** A call just inside: it answers. */
    void answers(String what, Maker maker, Use use) {
        is(what, thrownBy(use, maker.make()), "");
    }

    /** A call that answers and changes nothing, the buffer and the text that was written neither. */
    void keeps(String what, Maker maker, Use use) {
        for (int side = 0; side < SIDES; side++) {
            TypebarMachine x = maker.make();
            is(what + " answers", thrownBy(use, x), "");
            is(what + " changes nothing, side " + side, told(x, side), told(maker.make(), side));
        }
    }

    /** Each number from the least to the greatest is answered, those beside them are refused. */
    void range(String what, Class<?> due, int least, int greatest, Given given) {
        for (int value = least; value <= greatest; value++) {
            int inside = value;
            answers(what + " " + value, Used::machineAndKeys, x -> given.on(x, inside));
        }
        for (int outside : new int[] {least - 1, greatest + 1, Integer.MIN_VALUE, Integer.MAX_VALUE}) {
            refuses(what + " " + outside, due, Used::machineAndKeys, x -> given.on(x, outside));
        }
    }

    /**
     * A call just outside: it throws the very class that is due, and what can be told of the object is as of its twin
     * that was not called. Each side of it is told of a new object, as one is used for 512 calls at most.
     */
    void refuses(String what, Class<?> due, Maker maker, Use use) {
        refuses(what, due, maker, use, 0);
    }

    /** A load that is refused empties the buffer and sets the error, but leaves all else. */
    void refusesLoad(String what, Maker maker, Use use) {
        refuses(what, Check.ARGUMENT, maker, use, 2);
    }

    private void refuses(String what, Class<?> due, Maker maker, Use use, int firstSide) {
        for (int side = firstSide; side < SIDES; side++) {
            TypebarMachine x = maker.make();
            is(what, thrownBy(use, x), due.getSimpleName());
            is(what + " changes nothing, side " + side, told(x, side), told(maker.make(), side));
        }
    }

    private static String thrownBy(Use use, TypebarMachine x) {
        try {
            use.on(x);
            return "";
        } catch (RuntimeException e) {
            return e.getClass().getSimpleName();
        }
    }

    private static String told(TypebarMachine x, int side) {
        if (side == 0) {
            return x.buffered() + " " + x.parseError() + " " + x.errorPosition();
        }
        if (side == 1) {
            return bytes(x);
        }
        if (side == 2) {
            return x.undoable() + " " + text(x);
        }
        if (side == 3) {
            return state(x);
        }
        return side <= 5 ? slot(x, side - 4) : past(x, side - 5);
    }

    static boolean isLoaded(TypebarMachine x) {
        return thrownBy(TypebarMachine::latest, x).isEmpty();
    }

    static String state(TypebarMachine x) {
        return isLoaded(x) ? Rig.all(x) : "no machine";
    }

    /** What typing the bytes of the buffer would do, or the machine that they are. */
    private static String bytes(TypebarMachine x) {
        if (!isLoaded(x)) {
            String thrown = thrownBy(y -> y.load(y.buffered()), x);
            return thrown + x.parseError() + " " + x.errorPosition() + " " + state(x);
        }
        StringBuilder told = new StringBuilder();
        for (int n = 0; n <= Math.min(20, x.buffered()); n++) {
            told.append(x.wouldType(n, 0)).append(x.wouldType(n, 1)).append(x.wouldType(n, 2)).append(' ');
        }
        return told.append(x.type(x.buffered())).append(' ').append(state(x)).toString();
    }

    /** The text that was written last, up to the byte that there is not. */
    static String text(TypebarMachine x) {
        StringBuilder told = new StringBuilder();
        for (int i = 0; i <= 40; i++) {
            try {
                told.append((char) x.textByte(i));
            } catch (IndexOutOfBoundsException e) {
                return told.toString();
            }
        }
        return told.toString();
    }

    private static String slot(TypebarMachine x, int slot) {
        return thrownBy(y -> y.restore(slot), x) + state(x);
    }

    private static String past(TypebarMachine x, int changes) {
        StringBuilder told = new StringBuilder();
        for (int i = 0; i < changes; i++) {
            told.append(thrownBy(TypebarMachine::undo, x));
        }
        return told + state(x);
    }

    private void endSentence() {
        if (answers == 0) {
            check.is(sentence + " is asked for", false, true);
        }
    }

    /** Each sentence of the document is held by a test, or is one of those that name no boundary. */
    void holdsAll(String[] withoutBoundary) {
        endSentence();
        List<String> others = new ArrayList<>(List.of(withoutBoundary));
        for (String section : doc.sections()) {
            for (String said : doc.sentences(section)) {
                boolean isHeld = isHeld(section, said);
                boolean isOther = others.remove(section + "|" + said);
                check.is(section + "|" + said + " is either held or without a boundary", isHeld ^ isOther, true);
            }
        }
        check.is("sentences without a boundary that do not stand in the document", others, List.of());
    }

    private boolean isHeld(String section, String said) {
        for (String words : held) {
            int end = words.indexOf('|');
            String quoted = words.substring(end + 1);
            if (words.substring(0, end).equals(section) && (said.contains(quoted) || quoted.contains(said))) {
                return true;
            }
        }
        return false;
    }

    void end() {
        check.end();
    }
}
