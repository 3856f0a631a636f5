import java.util.ArrayList;
import java.util.List;

/** The sentences of the promises 50 to 53, and what is told of undo under "Terms", 6. */
final class UndoEdges {

    private final Edge edge;

    private UndoEdges(Edge edge) {
        this.edge = edge;
    }

    static void hold(Edge edge) {
        UndoEdges edges = new UndoEdges(edge);
        edges.changes();
        edges.eachUndone();
        edges.onlyEight();
        edges.sinceLoadOrRestore();
        edges.writtenText();
        edges.undo();
        edges.refusedUndo();
        edges.undoable();
        edges.save();
        edges.saveInPlace();
        edges.restore();
        edges.refusedSlots();
    }

    private void changes() {
        edge.term(6, "The methods that are documented as changes can be undone, the latest one first; each call of one "
                + "of them that\n"
                + "succeeds (a key that fails, too) is a change, even if nothing is different then.");
        TypebarMachine x = Rig.plain();
        List<String> past = new ArrayList<>();
        Edge.Use[] uses = {y -> y.strike(2, false), y -> y.strike(2, false), y -> y.setStop(5, true), y -> y.set(5, 20),
            y -> y.setMargin(false, 2), y -> y.type(0), y -> y.press(2), TypebarMachine::newPage};
        for (Edge.Use use : uses) {
            past.add(brief(x));
            use.on(x);
        }
        edge.is("the second one failed, four left all as it was", x.undoable(), 8);
        for (int i = 7; i >= 0; i--) {
            edge.is("left", x.undo(), i);
            edge.is("as before change " + i, brief(x), past.get(i));
        }
    }

    private void eachUndone() {
        edge.term(6, "changes (each can be undone, the latest one first)");
        Edge.Use[] uses = {y -> y.strike(0, true), y -> y.press(5), y -> y.type(20), y -> y.setStop(0, true),
            y -> y.setMargin(true, 11), y -> y.set(8, 99), y -> y.rest(9999), TypebarMachine::newRibbon,
            TypebarMachine::newPage};
        for (int first = 0; first + 1 < uses.length; first++) {
            TypebarMachine x = Used.machineAndKeys();
            String before = Rig.all(x);
            uses[first].on(x);
            int time = x.count(2);
            uses[first + 1].on(x);
            edge.is("the later one of " + first, x.undo() * 100000 + x.count(2), 700000 + time);
            edge.is("the one before it", x.undo(), 6);
            edge.is("all as before both", Rig.all(x), before);
        }
    }

    private static String brief(TypebarMachine x) {
        return Rig.counts(x) + Rig.carriage(x) + Rig.line(x, 0) + x.latest() + x.reason();
    }

    private void onlyEight() {
        edge.term(6, "Only the latest 8 changes since the last successful call of load or restore are kept for this.");
        for (int changes = 0; changes <= 18; changes++) {
            TypebarMachine x = Rig.plain();
            for (int i = 0; i < changes; i++) {
                x.rest(1 + i);
            }
            int kept = Math.min(8, changes);
            edge.is("kept of " + changes, x.undoable(), kept);
            for (int i = 1; i <= kept; i++) {
                edge.is("left of " + changes, x.undo(), kept - i);
                edge.is("the time then", x.count(2), (changes - i) * (changes - i + 1) / 2);
            }
            edge.is("no more", undoes(x), "IllegalStateException");
            edge.is("the time stays", x.count(2), (changes - kept) * (changes - kept + 1) / 2);
        }
    }

    private static String undoes(TypebarMachine x) {
        try {
            return "answer " + x.undo();
        } catch (RuntimeException e) {
            return e.getClass().getSimpleName();
        }
    }

    private void sinceLoadOrRestore() {
        edge.term(6, "since the last successful call of load or restore");
        TypebarMachine x = Used.machine();
        edge.is("ahead of load", x.undoable(), 8);
        Rig.load(x, Rig.PLAIN);
        edge.is("behind load", x.undoable(), 0);
        x.press(0);
        edge.is("one change", x.undoable(), 1);
        int n = Rig.feed(x, "machine 9");
        try {
            x.load(n);
        } catch (IllegalArgumentException e) {
            edge.is("a load that fails leaves it", x.undoable(), 1);
        }
        x.save(0);
        edge.is("behind save", x.undoable(), 1);
        try {
            x.restore(1);
        } catch (IllegalStateException e) {
            edge.is("a restore that fails leaves it", x.undoable(), 1);
        }
        x.restore(0);
        edge.is("behind restore", x.undoable(), 0);
        for (int i = 1; i <= 9; i++) {
            x.press(4);
            edge.is("changes behind it", x.undoable(), Math.min(8, i));
        }
    }

    private void writtenText() {
        edge.term(6, "The text that was written last stays until the next text, also\nbehind load, undo and restore.");
        TypebarMachine x = Used.machine();
        x.writeRuler();
        String ruler = Edge.text(x);
        edge.is("bytes", ruler.length(), 12);
        x.undo();
        edge.is("behind undo", Edge.text(x), ruler);
        x.restore(0);
        edge.is("behind restore", Edge.text(x), ruler);
        Rig.load(x, "machine 10 1 0 1 0;speed 1 1 0 0;ribbon 5 1 0");
        edge.is("behind load", Edge.text(x), ruler);
        int n = Rig.feed(x, "?");
        try {
            x.load(n);
        } catch (IllegalArgumentException e) {
            edge.is("behind a load that fails", Edge.text(x), ruler);
        }
        x.writeLine(0);
        edge.is("the next text has no bytes", Edge.text(x), "");
        x.writeRuler();
        edge.is("the next text", Edge.text(x), "VR........");
    }

    private void undo() {
        edge.promise(50, "Undoes the latest change that has not been undone; the input buffer and the text that was "
                + "written stay, all else\n"
                + "(reason() and reasonAt(), too) is as before the change.");
        TypebarMachine x = Used.machine();
        String before = Rig.all(x);
        edge.is("reason and its byte", x.reason() * 10 + x.reasonAt(), 36);
        x.strike(0, false);
        x.writeRuler();
        String text = Edge.text(x);
        Rig.feed(x, "abc");
        x.undo();
        edge.is("all else", Rig.all(x), before);
        edge.is("reason and its byte again", x.reason() * 10 + x.reasonAt(), 36);
        edge.is("the buffer", x.buffered() + " " + x.wouldType(4, 1), "20 3");
        edge.is("the text", Edge.text(x), text);
        x.type(3);
        x.undo();
        edge.is("bytes that were typed do not come back", x.buffered(), 0);
        edge.is("all else again", Rig.all(x), before);

        edge.promise(50, "Returns the number of changes that can still be undone.");
        TypebarMachine y = Used.machine();
        for (int left = 7; left >= 0; left--) {
            edge.is("left", y.undo(), left);
        }
        TypebarMachine one = Rig.plain();
        one.newPage();
        edge.is("of one", one.undo(), 0);
    }

    private static TypebarMachine undone() {
        TypebarMachine x = Used.machineAndKeys();
        for (int i = 0; i < 8; i++) {
            x.undo();
        }
        return x;
    }

    private static TypebarMachine restored() {
        TypebarMachine x = Used.machineAndKeys();
        x.restore(1);
        return x;
    }

    private void refusedUndo() {
        edge.promise(50, "Throws `IllegalStateException` if there is none");
        edge.answers("there is one", Used::machineAndKeys, TypebarMachine::undo);
        edge.refuses("behind load", Check.STATE, Rig::plain, TypebarMachine::undo);
        edge.refuses("a ninth one", Check.STATE, UndoEdges::undone, TypebarMachine::undo);
        edge.refuses("behind restore", Check.STATE, UndoEdges::restored, TypebarMachine::undo);
        edge.refuses("without a machine", Check.STATE, Used::without, TypebarMachine::undo);
    }

    private void undoable() {
        edge.promise(51, "Returns the number of changes that can be undone, 0 to 8.");
        TypebarMachine x = new TypebarMachine();
        edge.is("no machine", x.undoable(), 0);
        Rig.load(x, Rig.PLAIN);
        edge.is("a machine", x.undoable(), 0);
        for (int i = 1; i <= 20; i++) {
            x.press(i % 6);
            edge.is("behind change " + i, x.undoable(), Math.min(8, i));
        }
        for (int i = 7; i >= 0; i--) {
            x.undo();
            edge.is("behind undo", x.undoable(), i);
        }
        x.press(0);
        edge.is("one again", x.undoable(), 1);
    }

    private void save() {
        edge.promise(52, "Returns the time.");
        TypebarMachine x = Rig.plain();
        edge.is("at first", x.save(0), 0);
        x.rest(9999);
        edge.is("later", x.save(1), 9999);

        edge.promise(52, "Saves the machine with all that is told of it (but the input buffer, parseError(), "
                + "errorPosition() and what can\n"
                + "be undone) in a slot");
        for (int slot = 0; slot <= 1; slot++) {
            TypebarMachine y = Used.machine();
            y.undo();
            String saved = Rig.all(y);
            edge.is("seven changes", y.undoable(), 7);
            y.save(slot);
            edge.is("save is no change", y.undoable() + Rig.all(y), 7 + saved);
            Rig.type(y, "^<a/B>c!d<? ");
            y.setMargin(true, 11);
            y.setStop(11, true);
            y.set(12, 3);
            y.newRibbon();
            int n = Rig.feed(y, "?");
            try {
                y.load(n);
            } catch (IllegalArgumentException e) {
                edge.is("another error", y.parseError() * 10 + y.errorPosition(), 10);
            }
            Rig.feed(y, "ab");
            y.restore(slot);
            edge.is("all that is told of it in slot " + slot, Rig.all(y), saved);
            edge.is("not the buffer, nor the error", y.buffered() + " " + y.parseError() + " " + y.errorPosition(), "20 1 0");
            edge.is("nor the changes", y.undoable(), 0);
        }
    }

    private void saveInPlace() {
        edge.promise(52, "in place of what was saved there");
        TypebarMachine x = Rig.plain();
        x.save(0);
        x.save(1);
        x.rest(5);
        x.save(0);
        x.rest(5);
        x.save(0);
        x.rest(5);
        edge.is("the latest in slot 0", x.restore(0), 10);
        edge.is("slot 1 by itself", x.restore(1), 0);
        x.rest(7);
        x.save(1);
        edge.is("the latest in slot 1", x.restore(1), 7);
        edge.is("slot 0 by itself", x.restore(0), 10);
    }

    private void restore() {
        edge.promise(53, "Restores what was saved in a slot; it stays saved.");
        TypebarMachine x = Used.machine();
        x.save(0);
        String saved = Rig.all(x);
        for (int times = 1; times <= 3; times++) {
            x.newPage();
            x.newRibbon();
            x.rest(100 * times);
            x.strike(3, true);
            x.restore(0);
            edge.is("restored " + times + " times", Rig.all(x), saved);
        }
        x.newPage();
        x.undo();
        edge.is("a change that is undone behind it", Rig.all(x), saved);
        edge.promise(53, "Nothing can be undone afterwards.");
        TypebarMachine y = Used.machine();
        edge.is("ahead of it", y.undoable(), 8);
        y.restore(0);
        edge.is("behind it", y.undoable(), 0);
        edge.is("undo", undoes(y), "IllegalStateException");
        edge.promise(53, "Returns the time in the restored state.");
        TypebarMachine z = Rig.plain();
        z.save(0);
        z.rest(9999);
        z.save(1);
        edge.is("0", z.restore(0), 0);
        edge.is("9999", z.restore(1), 9999);
        edge.is("the time then", z.count(2), 9999);
    }

    private void refusedSlots() {
        edge.promise(52, "`slot`: 0 or 1");
        edge.answers("slot 0", Used::machineAndKeys, x -> x.save(0));
        edge.answers("slot 1", Used::machineAndKeys, x -> x.save(1));
        edge.promise(52, "Throws `IndexOutOfBoundsException` if there is no such slot");
        edge.range("slot", Check.INDEX, 0, 1, TypebarMachine::save);
        edge.promise(53, "`slot`: 0 or 1");
        edge.answers("slot 0", Used::machineAndKeys, x -> x.restore(0));
        edge.answers("slot 1", Used::machineAndKeys, x -> x.restore(1));
        edge.promise(53, "Throws `IndexOutOfBoundsException` if there is no such slot");
        edge.range("slot", Check.INDEX, 0, 1, TypebarMachine::restore);
        edge.refuses("slot -1 without a machine", Check.INDEX, Used::without, x -> x.restore(-1));
        edge.refuses("slot 2 without a machine", Check.INDEX, Used::without, x -> x.restore(2));

        edge.promise(53, "Throws `IllegalStateException` if nothing is saved there");
        edge.refuses("slot 0 without a machine", Check.STATE, Used::without, x -> x.restore(0));
        edge.refuses("slot 1 without a machine", Check.STATE, Used::without, x -> x.restore(1));
        edge.refuses("slot 0 of a new machine", Check.STATE, Rig::plain, x -> x.restore(0));
        edge.refuses("slot 1 of a new machine", Check.STATE, Rig::plain, x -> x.restore(1));
        for (int slot = 0; slot <= 1; slot++) {
            int saved = slot;
            Edge.Maker maker = () -> {
                TypebarMachine x = Rig.plain();
                x.press(0);
                x.save(saved);
                x.press(1);
                return x;
            };
            edge.answers("the slot that was saved", maker, x -> x.restore(saved));
            edge.refuses("the other one", Check.STATE, maker, x -> x.restore(1 - saved));
        }
    }
}
