import java.util.ArrayList;
import java.util.List;

/** Promises 50 to 53: undo, undoable, save and restore. */
public final class UndoTest {

    private static final Check CHECK = new Check("UndoTest");

    public static void main(String[] args) {
        eachChange();
        onlyEight();
        ring();
        whatStays();
        save();
        restore();
        CHECK.end();
    }

    /** Each kind of change by itself, on a machine that was used. */
    private static void eachChange() {
        TypebarMachine x = used();
        Check.Call[] changes = {
            () -> x.strike(3, true), () -> x.strike(0, false), () -> x.press(0), () -> x.press(1), () -> x.press(2),
            () -> x.press(3), () -> x.press(4), () -> x.press(5), () -> Rig.type(x, "c1D>>^ /?"), () -> Rig.type(x, ""),
            () -> x.setStop(3, true), () -> x.setStop(5, false), () -> x.setMargin(true, 9), () -> x.setMargin(false, 0),
            () -> x.set(4, 0), () -> x.set(5, 77), () -> x.set(6, 77), () -> x.set(7, 77), () -> x.set(8, 77),
            () -> x.set(11, 3), () -> x.set(12, 3), () -> x.rest(9), () -> x.newRibbon(), () -> x.newPage(),
            () -> Rig.type(x, "/^<<a<a<a<a<a<a<a<a<a<a")
        };
        for (int i = 0; i < changes.length; i++) {
            String before = Rig.all(x);
            int undoable = x.undoable();
            changes[i].answer();
            CHECK.is("51: one change more, " + i, x.undoable(), undoable + 1);
            CHECK.is("50: changes that are left, " + i, x.undo(), undoable);
            CHECK.is("50: all is as before the change " + i, Rig.all(x), before);
        }
        TypebarMachine jam = used();
        jam.set(5, 1);
        jam.press(2);
        String before = Rig.all(jam);
        CHECK.is("a jam", Rig.type(jam, "ba"), 1);
        String jammed = Rig.all(jam);
        jam.press(5);
        jam.undo();
        CHECK.is("50: a free that is undone", Rig.all(jam), jammed);
        jam.undo();
        CHECK.is("50: a jam that is undone", Rig.all(jam), before);
    }

    private static TypebarMachine used() {
        TypebarMachine x = Rig.plain();
        Rig.type(x, "aB cA^<<a/b>Cd<d9?");
        x.rest(50);
        return x;
    }

    private static void onlyEight() {
        TypebarMachine x = Rig.plain();
        CHECK.is("51: at first", x.undoable(), 0);
        CHECK.refuses("50: nothing to undo", Check.STATE, () -> x.undo());
        List<String> past = new ArrayList<>();
        for (int i = 1; i <= 20; i++) {
            past.add(Rig.all(x));
            x.strike(i % 4, i % 3 == 0);
            CHECK.is("51: after " + i + " changes", x.undoable(), Math.min(8, i));
        }
        for (int i = 7; i >= 0; i--) {
            CHECK.is("50: changes that are left", x.undo(), i);
            CHECK.is("50: the state before change " + (12 + i), Rig.all(x), past.get(12 + i));
            CHECK.is("51: changes that are left", x.undoable(), i);
        }
        CHECK.refuses("50: the ninth", Check.STATE, () -> x.undo());
        CHECK.is("50: it changes nothing", Rig.all(x), past.get(12));
    }

    /** Undo and changes in turn, so that the oldest one lies at every place of whatever holds them. */
    private static void ring() {
        TypebarMachine x = Rig.plain();
        List<String> past = new ArrayList<>();
        for (int round = 0; round < 30; round++) {
            for (int i = 0; i < 1 + round % 5; i++) {
                past.add(Rig.all(x));
                x.press((round + i) % 6);
            }
            for (int i = 0; i < 1 + round % 3 && x.undoable() > 0; i++) {
                x.undo();
                CHECK.is("50: in the round " + round, Rig.all(x), past.remove(past.size() - 1));
            }
        }
        int left = x.undoable();
        for (int i = 0; i < left; i++) {
            CHECK.is("50: the number that is left", x.undo(), left - 1 - i);
            CHECK.is("50: at last", Rig.all(x), past.remove(past.size() - 1));
        }
    }

    private static void whatStays() {
        TypebarMachine x = Rig.plain();
        Rig.type(x, "a?");
        CHECK.is("18, 19: a text that stopped", x.reason() * 10 + x.reasonAt(), 31);
        Rig.line(x, 0);
        x.strike(1, false);
        Rig.feed(x, "abc");
        x.undo();
        CHECK.is("50: the buffer stays", x.buffered(), 20);
        CHECK.is("50: the text stays", Rig.written(x, 3), "  a");
        CHECK.is("50: reason and its byte are as before", x.reason() * 10 + x.reasonAt(), 31);
        CHECK.is("50: the buffer can be typed", x.type(3), 3);
        x.undo();
        CHECK.is("50: undo gives no bytes back", x.buffered(), 0);
        x.save(0);
        x.undo();
        CHECK.is("50: to the first state", Rig.counts(x), "4 2 0 0 0 0 0 0 0 0 0 0 0 0");
        CHECK.is("53: a slot stays behind undo", x.restore(0), 20);
        CHECK.is("53: with its reason", x.reason() * 10 + x.reasonAt(), 31);
        int n = Rig.feed(x, "machine 5");
        CHECK.refuses("a text with an error", Check.ARGUMENT, () -> x.load(n));
        x.press(0);
        x.undo();
        CHECK.is("50: parseError and errorPosition stay", x.parseError() * 10 + x.errorPosition(), 28);
    }

    private static void save() {
        TypebarMachine x = Rig.plain();
        CHECK.is("52: the time at first", x.save(0), 0);
        Rig.type(x, "ab9");
        String first = Rig.all(x);
        CHECK.is("52: the time", x.save(1), 130);
        CHECK.is("52: it is no change", x.undoable(), 1);
        CHECK.is("52: it changes nothing", Rig.all(x), first);
        Rig.type(x, "cd>/<^A");
        CHECK.is("53: slot 1", x.restore(1), 130);
        CHECK.is("53: all is as it was saved", Rig.all(x), first);
        x.newPage();
        x.newRibbon();
        CHECK.is("53: it stays saved", x.restore(1), 130);
        CHECK.is("53: all is as it was saved, again", Rig.all(x), first);
        CHECK.is("53: slot 0", x.restore(0), 0);
        CHECK.is("53: all is as at first", Rig.all(x), Rig.all(Rig.plain()));
        x.rest(5);
        CHECK.is("52: in place of what was saved", x.save(1), 5);
        x.rest(5);
        CHECK.is("53: the later one", x.restore(1), 5);
        for (int no : new int[] {-1, 2, Integer.MIN_VALUE, Integer.MAX_VALUE}) {
            CHECK.refuses("52: no slot " + no, Check.INDEX, () -> x.save(no));
            CHECK.refuses("53: no slot " + no, Check.INDEX, () -> x.restore(no));
        }
    }

    private static void restore() {
        TypebarMachine x = Rig.plain();
        CHECK.refuses("53: nothing is saved in 0", Check.STATE, () -> x.restore(0));
        x.save(0);
        CHECK.refuses("53: nothing is saved in 1", Check.STATE, () -> x.restore(1));
        x.press(0);
        x.setStop(0, true);
        CHECK.is("changes", x.undoable(), 2);
        CHECK.refuses("53: no slot", Check.INDEX, () -> x.restore(2));
        CHECK.is("53: a call that throws keeps the changes", x.undoable(), 2);
        Rig.feed(x, "ab");
        Rig.line(x, 0);
        x.writeRuler();
        x.restore(0);
        CHECK.is("53: nothing can be undone afterwards", x.undoable(), 0);
        CHECK.refuses("53: undo throws then", Check.STATE, () -> x.undo());
        CHECK.is("53: the buffer stays", x.buffered(), 20);
        CHECK.is("53: the text stays", Rig.written(x, 12), "T.LV.T..R.T.");
        x.type(2);
        CHECK.is("53: changes are kept again", x.undoable(), 1);
        x.undo();
        CHECK.is("53: and undone", x.count(2), 0);
        Rig.load(x, Rig.PLAIN);
        CHECK.refuses("3: load takes the slots away", Check.STATE, () -> x.restore(0));

        TypebarMachine jam = Rig.plain();
        jam.set(5, 1);
        Rig.type(jam, "^ab");
        String jammed = Rig.all(jam);
        jam.save(0);
        Rig.type(jam, "!/");
        jam.setMargin(false, 0);
        jam.restore(0);
        CHECK.is("53: a jam is restored", Rig.all(jam), jammed);
    }
}
