/** The sentences of the promises 44 to 49, and of 41 to 49 that their calls are changes. */
final class ChangeEdges {

    private final Edge edge;

    private ChangeEdges(Edge edge) {
        this.edge = edge;
    }

    static void hold(Edge edge) {
        ChangeEdges edges = new ChangeEdges(edge);
        edges.changes();
        edges.setStop();
        edges.setMargin();
        edges.marginsByBell();
        edges.set();
        edges.setBell();
        edges.rest();
        edges.newRibbon();
        edges.newPage();
    }

    /** Each by a call that does something and by one by which nothing is different; 41 to 43 by one that fails, too. */
    private void changes() {
        change(41, x -> x.strike(1, false));
        change(41, x -> x.strike(2, false));
        change(42, x -> x.press(4));
        change(42, x -> x.press(3));
        change(43, x -> x.type(20));
        change(43, x -> x.type(0));
        change(44, x -> x.setStop(0, true));
        change(44, x -> x.setStop(0, false));
        change(45, x -> x.setMargin(false, 0));
        change(45, x -> x.setMargin(true, 8));
        change(46, x -> x.set(12, 3));
        change(46, x -> x.set(12, 1));
        change(47, x -> x.rest(1));
        change(48, TypebarMachine::newRibbon);
        change(49, TypebarMachine::newPage);
        edge.promise(48, "This is a change.");
        edge.is("a new ribbon for a new one", twice(TypebarMachine::newRibbon), 2);
        edge.promise(49, "This is a change.");
        edge.is("a new page for a new one", twice(TypebarMachine::newPage), 2);
    }

    private void change(int promise, Edge.Use use) {
        edge.promise(promise, "This is a change.");
        TypebarMachine fresh = Rig.plain();
        Rig.type(fresh, "//cc");
        Rig.feed(fresh, "bD 1<^d!>>a>/2 aAcC?");
        String before = Rig.all(fresh);
        use.on(fresh);
        edge.is("changes that can be undone", fresh.undoable(), 2);
        fresh.undo();
        edge.is("all as before it", Rig.all(fresh), before);
        TypebarMachine used = Used.machineAndKeys();
        edge.is("eight ahead of it", used.undoable(), 8);
        use.on(used);
        edge.is("eight behind it", used.undoable(), 8);
    }

    private static int twice(Edge.Use use) {
        TypebarMachine x = Rig.plain();
        use.on(x);
        use.on(x);
        return x.undoable();
    }

    private void setStop() {
        edge.promise(44, "`is`: whether there is one then");
        TypebarMachine x = Rig.plain();
        for (int column = 0; column <= 11; column++) {
            x.setStop(column, true);
            edge.is("a stop at " + column, x.isStop(column), true);
        }
        edge.is("all columns", x.count(1), 12);
        for (int column = 0; column <= 11; column++) {
            x.setStop(column, false);
            edge.is("no stop at " + column, x.isStop(column), false);
        }
        edge.is("no column", x.count(1), 0);

        edge.promise(44, "Returns whether there was one.");
        edge.is("none at 0", x.setStop(0, true), false);
        edge.is("one at 0", x.setStop(0, true), true);
        edge.is("one at 0, still", x.setStop(0, false), true);
        edge.is("none at 0 again", x.setStop(0, false), false);
        edge.is("none at 11", x.setStop(11, true), false);
        edge.is("one at 11", x.setStop(11, false), true);

        edge.promise(44, "`column`: 0 to WIDTH less 1");
        edge.range("column to be set", Check.INDEX, 0, 11, (y, column) -> y.setStop(column, true));
        edge.range("column to be taken away", Check.INDEX, 0, 11, (y, column) -> y.setStop(column, false));
        edge.promise(44, "Throws `IndexOutOfBoundsException` if there is no such column");
        edge.answers("column 39 of 40", () -> Rig.loaded(Texts.with(0, 40)), y -> y.setStop(39, true));
        edge.refuses("column 40 of 40", Check.INDEX, () -> Rig.loaded(Texts.with(0, 40)), y -> y.setStop(40, true));
        edge.refuses("column 10 of 10", Check.INDEX, () -> Rig.loaded(Texts.with(0, 10)), y -> y.setStop(10, true));
    }

    /** WIDTH 12; which columns setMargin takes for a margin, and which it refuses. */
    private void margin(boolean right, int left, int rightMargin, int bell, int least, int greatest) {
        String text = "machine 12 3 " + left + " " + rightMargin + " " + bell + Texts.TAIL;
        Edge.Maker maker = () -> Rig.loaded(text);
        String what = (right ? "RIGHT" : "LEFT") + " of " + text + " at ";
        for (int column = least; column <= greatest; column++) {
            TypebarMachine x = maker.make();
            edge.is(what + column, x.setMargin(right, column), right ? rightMargin : left);
            edge.is("the setting then", x.setting(right ? 3 : 2), column);
            edge.is("the other margin then", x.setting(right ? 2 : 3), right ? left : rightMargin);
        }
        for (int column : new int[] {least - 1, greatest + 1, Integer.MIN_VALUE, Integer.MAX_VALUE}) {
            edge.refuses(what + column, Check.ARGUMENT, maker, y -> y.setMargin(right, column));
        }
    }

    private void setMargin() {
        edge.promise(45, "of LEFT 0 to RIGHT less 1");
        margin(false, 2, 8, 0, 0, 7);
        margin(false, 2, 8, 1, 0, 7);
        margin(false, 0, 1, 0, 0, 0);
        margin(false, 0, 1, 1, 0, 0);
        margin(false, 0, 11, 0, 0, 10);

        edge.promise(45, "of RIGHT LEFT plus 1 to WIDTH less 1");
        margin(true, 2, 8, 0, 3, 11);
        margin(true, 2, 8, 1, 3, 11);
        margin(true, 10, 11, 0, 11, 11);
        margin(true, 10, 11, 1, 11, 11);
        margin(true, 0, 11, 0, 1, 11);

        edge.promise(45, "Returns the previous column.");
        TypebarMachine x = Rig.plain();
        edge.is("LEFT", x.setMargin(false, 0), 2);
        edge.is("LEFT again", x.setMargin(false, 0), 0);
        edge.is("RIGHT", x.setMargin(true, 11), 8);
        edge.is("RIGHT again", x.setMargin(true, 11), 11);
        edge.is("the carriage stays", Rig.carriage(x), "0 2 0 0");

        edge.promise(45, "Throws `IllegalArgumentException` if column is out of range");
        edge.range("LEFT", Check.ARGUMENT, 0, 5, (y, column) -> y.setMargin(false, column));
        edge.range("RIGHT", Check.ARGUMENT, 4, 11, (y, column) -> y.setMargin(true, column));
    }

    private void marginsByBell() {
        edge.promise(45, "but at most RIGHT less BELL");
        margin(false, 2, 8, 2, 0, 6);
        margin(false, 2, 8, 6, 0, 2);
        margin(false, 0, 11, 11, 0, 0);
        margin(false, 0, 11, 10, 0, 1);

        edge.promise(45, "but at least LEFT plus BELL");
        margin(true, 2, 8, 2, 4, 11);
        margin(true, 2, 8, 6, 8, 11);
        margin(true, 0, 11, 11, 11, 11);
        margin(true, 0, 11, 10, 10, 11);
    }

    private void set() {
        edge.promise(46, "`what`: 4 BELL, 5 PACE, 6 RISE, 7 CLEAR, 8 NEAR, 11 WEAR, 12 SPACING");
        int[][] bounds = {{4, 0, 6}, {5, 1, 999}, {6, 1, 99}, {7, 0, 99}, {8, 0, 99}, {11, 0, 3}, {12, 1, 3}};
        for (int[] bound : bounds) {
            int before = Rig.plain().setting(bound[0]);
            for (int value : new int[] {bound[1], bound[2]}) {
                TypebarMachine x = Rig.plain();
                edge.is("set " + bound[0] + " to " + value, x.set(bound[0], value), before);
                edge.is("the setting then", x.setting(bound[0]), value);
            }
        }

        edge.promise(46, "Returns the previous value.");
        TypebarMachine y = Rig.plain();
        edge.is("at first", y.set(5, 999), 20);
        edge.is("then", y.set(5, 999), 999);
        edge.is("and then", y.set(5, 1), 999);

        edge.promise(46, "`value`: the new value, within its bounds");
        for (int[] bound : bounds) {
            for (int value : new int[] {bound[1] - 1, bound[2] + 1, Integer.MIN_VALUE, Integer.MAX_VALUE}) {
                edge.refuses("set " + bound[0] + " to " + value, Check.ARGUMENT, Rig::plain, x -> x.set(bound[0], value));
            }
        }

        edge.promise(46, "Throws `IllegalArgumentException` if what is none of these, or value is out of range");
        for (int what : new int[] {-1, 0, 1, 2, 3, 9, 10, 13, Integer.MIN_VALUE, Integer.MAX_VALUE}) {
            // Each is within the bounds of some setting, so that only what is wrong.
            for (int value : new int[] {1, 3, 12}) {
                edge.refuses("set " + what + " to " + value, Check.ARGUMENT, Used::machineAndKeys, x -> x.set(what, value));
            }
        }
        edge.refuses("what and value", Check.ARGUMENT, Used::machineAndKeys, x -> x.set(3, -1));
        edge.answers("both are right", Used::machineAndKeys, x -> x.set(4, 1));
    }

    private void setBell() {
        edge.term(3, "(BELL is 0 to RIGHT less LEFT)");
        bell(0, 1, 1);
        bell(10, 11, 1);
        bell(0, 11, 11);
        bell(2, 8, 6);
        bell(2, 3, 1);
    }

    private void bell(int left, int right, int greatest) {
        Edge.Maker maker = () -> Rig.loaded("machine 12 3 " + left + " " + right + " 0" + Texts.TAIL);
        String what = "LEFT " + left + ", RIGHT " + right + ": BELL ";
        edge.answers(what + 0, maker, x -> x.set(4, 0));
        edge.answers(what + greatest, maker, x -> x.set(4, greatest));
        edge.refuses(what + (greatest + 1), Check.ARGUMENT, maker, x -> x.set(4, greatest + 1));
        edge.refuses(what + -1, Check.ARGUMENT, maker, x -> x.set(4, -1));
    }

    private void rest() {
        edge.promise(47, "`time`: 1 to 9999");
        for (int time : new int[] {1, 2, 9998, 9999}) {
            TypebarMachine x = Rig.plain();
            x.rest(time);
            edge.is("rest of " + time, x.count(2), time);
        }
        edge.promise(47, "Throws `IllegalArgumentException` if time is out of range");
        for (int time : new int[] {0, -1, 10000, Integer.MIN_VALUE, Integer.MAX_VALUE}) {
            edge.refuses("rest of " + time, Check.ARGUMENT, Used::machineAndKeys, x -> x.rest(time));
        }
        edge.answers("1", Used::machineAndKeys, x -> x.rest(1));
        edge.answers("9999", Used::machineAndKeys, x -> x.rest(9999));

        edge.promise(47, "Returns how many bars are not back then.");
        edge.is("no bars", Rig.loaded(Texts.with(0, 12)).rest(1), 0);
        edge.is("none was struck", Rig.plain().rest(1), 0);
        restBehind("c", 27, 1);
        restBehind("c", 28, 0);
        restBehind("dc", 7, 2);
        restBehind("dc", 8, 1);
        restBehind("dc", 27, 1);
        restBehind("dc", 28, 0);
        StringBuilder text = new StringBuilder("machine 40 1 0 39 0;speed 1 99 0 0;ribbon 5 1 0");
        StringBuilder keys = new StringBuilder();
        for (char letter = 'a'; letter <= 'z'; letter++) {
            text.append(";bar ").append(letter).append(" 90");
            keys.append(letter);
        }
        TypebarMachine all = Rig.loaded(text.toString());
        Rig.type(all, keys.toString());
        edge.is("all bars", all.rest(1), 26);
        edge.is("not all of them", all.rest(172), 25);
        edge.is("the last one", all.rest(24), 1);
        edge.is("none", all.rest(1), 0);
    }

    private void restBehind(String keys, int time, int due) {
        TypebarMachine x = Rig.plain();
        Rig.type(x, keys);
        edge.is("rest of " + time + " behind " + keys, x.rest(time), due);
    }

    private void newRibbon() {
        edge.promise(48, "Puts a new ribbon in: all places have INK, the place 0 is at the head, and it runs forward.");
        TypebarMachine x = Rig.loaded("machine 12 3 0 11 0;speed 20 5 4 10;ribbon 5 2 2;bar a 90");
        Rig.type(x, "aaaaaaa");
        edge.is("no ink", Rig.ribbon(x), "00000 2<");
        x.newRibbon();
        edge.is("a new one", Rig.ribbon(x), "22222 0>");
        x.newRibbon();
        edge.is("a new one again", Rig.ribbon(x), "22222 0>");
        TypebarMachine longest = Rig.loaded(Texts.with(9, 60, 10, 9));
        longest.newRibbon();
        edge.is("the first and the last place of the longest", longest.ribbon(0) * 10 + longest.ribbon(59), 99);

        edge.promise(48, "Returns all ink that was on the old one.");
        TypebarMachine y = Rig.loaded("machine 12 3 0 11 0;speed 20 5 4 10;ribbon 5 2 2;bar a 90");
        edge.is("all ink", y.newRibbon(), 10);
        Rig.type(y, "aaaa");
        edge.is("one place is left", y.newRibbon(), 2);
        Rig.type(y, "aaaaa");
        edge.is("none is left", y.newRibbon(), 0);
        edge.is("the longest", longest.newRibbon(), 540);
    }

    private void newPage() {
        edge.promise(49, "Puts a new page in: all places are empty, and the carriage goes to the line 0 and to the "
                + "column LEFT; the\n"
                + "margins are not released any more (all else stays).");
        TypebarMachine x = Rig.loaded("machine 10 2 0 9 0;speed 50 1 0 0;ribbon 5 9 0;bar a 90");
        Rig.type(x, "aaaaaaaaaa/aaaaaaaaaa^");
        String ribbon = Rig.ribbon(x);
        String counts = Rig.counts(x);
        x.newPage();
        edge.is("a full page", x.letters('a') + x.lineLength(0) + x.lineLength(1) + x.palest(), -1);
        edge.is("the corners", x.sign(0, 0) + x.sign(0, 9) + x.sign(1, 0) + x.sign(1, 9), 128);
        edge.is("their darkness", x.darkness(0, 0) + x.darkness(0, 9) + x.darkness(1, 0) + x.darkness(1, 9), 0);
        edge.is("the carriage, from WIDTH", Rig.carriage(x), "0 0 0 0");
        edge.is("all else", Rig.ribbon(x) + Rig.counts(x), ribbon + counts);
        x.setMargin(false, 8);
        x.newPage();
        edge.is("with LEFT WIDTH less 2", Rig.carriage(x), "0 8 0 0");
        TypebarMachine jam = Rig.plain();
        jam.set(5, 9);
        Rig.type(jam, "ab");
        jam.newPage();
        edge.is("a jam stays", jam.bar(0, 5) + jam.bar(1, 5) + jam.press(0), 3);

        edge.promise(49, "Returns how many places were not empty.");
        TypebarMachine y = Rig.loaded("machine 10 2 0 9 0;speed 50 1 0 0;ribbon 5 1 1;bar a 90");
        edge.is("none", y.newPage(), 0);
        Rig.type(y, "a<a");
        edge.is("one, with two letters", y.newPage(), 1);
        Rig.type(y, "         a/a        a");
        edge.is("at the ends of the lines", y.newPage(), 3);
        Rig.type(y, "aaaaaaaaaa/aaaaaaaaaa");
        edge.is("all, some of them without darkness", y.newPage(), 20);
    }
}
