/** Promises 44 to 49: changes but the keys. */
public final class ChangesTest {

    private static final Check CHECK = new Check("ChangesTest");

    public static void main(String[] args) {
        setStop();
        setMargin();
        set();
        setBounds();
        rest();
        newRibbon();
        newPage();
        CHECK.end();
    }

    private static void setStop() {
        TypebarMachine x = Rig.plain();
        CHECK.is("44: a new stop", x.setStop(0, true), false);
        CHECK.is("44: it is there", x.isStop(0), true);
        CHECK.is("44: the same again", x.setStop(0, true), true);
        CHECK.is("44: the last column", x.setStop(11, true), false);
        CHECK.is("1: stops", x.count(1), 4);
        CHECK.is("44: taken away", x.setStop(5, false), true);
        CHECK.is("44: it is gone", x.isStop(5), false);
        CHECK.is("44: taken away again", x.setStop(5, false), false);
        CHECK.is("44: stops", x.count(1), 3);
        CHECK.is("44: each is a change", x.undoable(), 5);
        CHECK.is("44: time stays", x.count(2) + x.count(13), 0);
        for (int no : new int[] {-1, 12, 39, Integer.MIN_VALUE, Integer.MAX_VALUE}) {
            CHECK.refuses("44: no column " + no, Check.INDEX, () -> x.setStop(no, true));
        }
        CHECK.is("44: that is no change", x.undoable(), 5);
    }

    private static void setMargin() {
        TypebarMachine x = Rig.plain();
        CHECK.is("45: LEFT gives the previous one", x.setMargin(false, 5), 2);
        CHECK.is("45: LEFT", x.setting(2), 5);
        CHECK.is("45: the carriage stays", Rig.carriage(x), "0 2 0 0");
        CHECK.refuses("45: LEFT above RIGHT less BELL", Check.ARGUMENT, () -> x.setMargin(false, 6));
        CHECK.is("45: LEFT 0", x.setMargin(false, 0), 5);
        CHECK.refuses("45: LEFT below 0", Check.ARGUMENT, () -> x.setMargin(false, -1));
        CHECK.is("45: RIGHT gives the previous one", x.setMargin(true, 3), 8);
        CHECK.refuses("45: RIGHT below LEFT plus BELL", Check.ARGUMENT, () -> x.setMargin(true, 2));
        CHECK.is("45: RIGHT in the last column", x.setMargin(true, 11), 3);
        CHECK.refuses("45: RIGHT WIDTH", Check.ARGUMENT, () -> x.setMargin(true, 12));
        x.set(4, 0);
        CHECK.is("45: LEFT just before RIGHT, BELL 0", x.setMargin(false, 10), 0);
        CHECK.refuses("45: LEFT at RIGHT, BELL 0", Check.ARGUMENT, () -> x.setMargin(false, 11));
        CHECK.refuses("45: RIGHT at LEFT, BELL 0", Check.ARGUMENT, () -> x.setMargin(true, 10));
        CHECK.is("45: the same column is a change", x.setMargin(true, 11), 11);
        x.set(4, 1);
        CHECK.is("45: with BELL 1", x.setMargin(false, 10), 10);
        for (int no : new int[] {-1, 12, Integer.MIN_VALUE, Integer.MAX_VALUE}) {
            CHECK.refuses("45: LEFT " + no, Check.ARGUMENT, () -> x.setMargin(false, no));
            CHECK.refuses("45: RIGHT " + no, Check.ARGUMENT, () -> x.setMargin(true, no));
        }
        CHECK.is("45: changes alone are counted", x.undoable(), 8);
        CHECK.is("45: settings", Rig.settings(x), "12 3 10 11 1 20 5 4 10 6 5 1 1");
        Rig.type(x, "/a a");
        CHECK.is("45: the new margins hold", Rig.line(x, 1) + x.reason(), "          a2");
    }

    private static void set() {
        TypebarMachine x = Rig.plain();
        CHECK.is("46: BELL", x.set(4, 6), 3);
        CHECK.is("46: PACE", x.set(5, 30), 20);
        CHECK.is("46: RISE", x.set(6, 99), 5);
        CHECK.is("46: CLEAR", x.set(7, 12), 4);
        CHECK.is("46: NEAR", x.set(8, 0), 10);
        CHECK.is("46: WEAR", x.set(11, 2), 1);
        CHECK.is("46: SPACING", x.set(12, 2), 1);
        CHECK.is("46: the same value is a change", x.set(12, 2), 2);
        CHECK.is("46: changes", x.undoable(), 8);
        CHECK.is("46: settings", Rig.settings(x), "12 3 2 8 6 30 99 12 0 6 5 2 2");
        Rig.type(x, "a/a");
        CHECK.is("46: they hold", x.count(2) + " " + Rig.ribbon(x) + " " + Rig.carriage(x), "90 355555 1> 2 2 0 0");
    }

    private static void setBounds() {
        TypebarMachine x = Rig.plain();
        setsWithin(x, 4, 0, 6);
        setsWithin(x, 5, 1, 999);
        setsWithin(x, 6, 1, 99);
        setsWithin(x, 7, 0, 99);
        setsWithin(x, 8, 0, 99);
        setsWithin(x, 11, 0, 3);
        setsWithin(x, 12, 1, 3);
        x.set(4, 0);
        x.setMargin(true, 3);
        setsWithin(x, 4, 0, 1);
        int changes = x.undoable();
        String before = Rig.all(x);
        for (int what : new int[] {-1, 0, 1, 2, 3, 9, 10, 13, Integer.MIN_VALUE, Integer.MAX_VALUE}) {
            for (int value : new int[] {-1, 0, 1, 5, 10}) {
                CHECK.refuses("46: set " + what + " to " + value, Check.ARGUMENT, () -> x.set(what, value));
            }
        }
        CHECK.is("46: that changes nothing", Rig.all(x), before);
        CHECK.is("46: that is no change", x.undoable(), changes);
    }

    private static void setsWithin(TypebarMachine x, int what, int low, int high) {
        int before = x.setting(what);
        CHECK.is("46: the least of " + what, x.set(what, low), before);
        CHECK.is("46: the greatest of " + what, x.set(what, high), low);
        for (int value : new int[] {low - 1, high + 1, Integer.MIN_VALUE, Integer.MAX_VALUE}) {
            CHECK.refuses("46: set " + what + " to " + value, Check.ARGUMENT, () -> x.set(what, value));
        }
        CHECK.is("46: the setting " + what, x.setting(what), high);
        x.undo();
        x.undo();
    }

    private static void rest() {
        TypebarMachine x = Rig.plain();
        CHECK.is("47: all are back", x.rest(1), 0);
        Rig.type(x, "ac");
        CHECK.is("47: the time", x.count(2), 41);
        CHECK.is("47: one is not back", x.rest(27), 1);
        CHECK.is("47: it is then", x.rest(1), 0);
        CHECK.is("47: the time goes on", x.count(2), 69);
        CHECK.is("47: it is no key", x.count(13), 2);
        x.set(6, 99);
        CHECK.is("47: by the rises as they are now", x.rest(1), 2);
        CHECK.is("47: the longest", x.rest(9999), 0);
        CHECK.is("47: the time of that", x.count(2), 10069);
        CHECK.is("47: they are changes", x.undoable(), 7);
        for (int no : new int[] {0, -1, 10000, Integer.MIN_VALUE, Integer.MAX_VALUE}) {
            CHECK.refuses("47: time " + no, Check.ARGUMENT, () -> x.rest(no));
        }
        CHECK.is("47: those are none", x.undoable() * 100000 + x.count(2), 710069);
        TypebarMachine jam = Rig.plain();
        jam.set(5, 1);
        Rig.type(jam, "ab");
        CHECK.is("47: a bar that is jammed is back likewise", jam.rest(8) * 10 + jam.rest(1), 10);
        CHECK.is("47: and stays jammed", jam.bar(0, 5) + jam.bar(1, 5), 2);
    }

    private static void newRibbon() {
        TypebarMachine x = Rig.plain();
        Rig.type(x, "aaaaaaa");
        CHECK.is("48: the ribbon before", Rig.ribbon(x), "444443 4<");
        CHECK.is("48: all ink of the old one", x.newRibbon(), 23);
        CHECK.is("48: the new one", Rig.ribbon(x), "555555 0>");
        CHECK.is("48: the turns stay", x.count(11), 1);
        CHECK.is("48: the page stays", Rig.line(x, 0), "  aaaaaaa");
        CHECK.is("48: a new one is a change, too", x.newRibbon(), 30);
        CHECK.is("48: changes", x.undoable(), 3);
    }

    private static void newPage() {
        TypebarMachine x = Rig.plain();
        Rig.type(x, "ab<c/^<<dd");
        x.set(12, 2);
        String ribbon = Rig.ribbon(x);
        CHECK.is("49: places that were not empty", x.newPage(), 3);
        CHECK.is("49: all are empty", x.lineLength(0) + x.lineLength(1) + x.lineLength(2), 0);
        CHECK.is("49: the carriage", Rig.carriage(x), "0 2 0 0");
        CHECK.is("49: darkness", x.darkness(0, 2) * 100 + x.sign(0, 2), 32);
        CHECK.is("49: the ribbon stays", Rig.ribbon(x), ribbon);
        CHECK.is("49: counts stay", Rig.counts(x), "4 2 200 4 0 0 3 1 0 1 0 0 1 10");
        CHECK.is("49: SPACING stays", x.setting(12), 2);
        CHECK.is("49: bars stay", Rig.bar(x, 3) + " " + x.latest(), "d 180 14 1 8 0 3");
        CHECK.is("49: an empty page", x.newPage(), 0);
        CHECK.is("49: changes", x.undoable(), 4);
        x.press(4);
        x.newPage();
        CHECK.is("49: the margins are not released any more", Rig.carriage(x), "0 2 0 0");
        x.setMargin(false, 4);
        x.newPage();
        CHECK.is("49: to LEFT as it is now", Rig.carriage(x), "0 4 0 0");
        x.set(5, 1);
        Rig.type(x, "ab");
        CHECK.is("49: a jam", x.reason(), 5);
        CHECK.is("49: places in a jam", x.newPage(), 1);
        CHECK.is("49: the jam stays", x.press(0), 1);
    }
}
