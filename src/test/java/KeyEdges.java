/** The sentences under "Terms", 3 Keys and 4 Texts to type, and of the promises 41 to 43. */
final class KeyEdges {

    // Rises 30, 30, 30, 31, 31, 39, 39.
    private static final String SLOW = "machine 12 3 2 8 3;speed 500 30 0 0;ribbon 6 5 1;"
            + "bar a 90;bar b 90;bar c 81;bar d 80;bar e 79;bar f 0;bar g 180";

    private final Edge edge;

    private KeyEdges(Edge edge) {
        this.edge = edge;
    }

    static void hold(Edge edge) {
        KeyEdges edges = new KeyEdges(edge);
        edges.pace();
        edges.failing();
        edges.order();
        edges.letter();
        edges.lock();
        edges.jam();
        edges.jamRoom();
        edges.jammedBars();
        edges.space();
        edges.bell();
        edges.tab();
        edges.back();
        edges.returning();
        edges.release();
        edges.free();
        edges.place();
        edges.bytes();
        edges.digits();
        edges.noKeys();
        edges.strike();
        edges.press();
        edges.type();
        edges.refusedType();
    }

    /** b jams with a; the carriage stands at the column 3. */
    private static TypebarMachine jammed() {
        TypebarMachine x = Rig.plain();
        x.set(5, 9);
        Rig.type(x, "ab");
        return x;
    }

    private static TypebarMachine typed(String keys) {
        TypebarMachine x = Rig.plain();
        Rig.type(x, keys);
        return x;
    }

    private void pace() {
        edge.term(3, "When a key is pressed, the time becomes greater by PACE (1 to 999) first");
        Texts.bounds(edge, 5, 1, 999);
        for (int pace = 1; pace <= 999; pace += 998) {
            TypebarMachine x = Rig.loaded(Texts.with(5, pace) + ";bar a 90");
            for (int key = 0; key <= 4; key++) {
                x.press(key);
            }
            edge.is("five keys with PACE " + pace, x.count(2), 5 * pace);
            x.strike(0, false);
            edge.is("a letter", x.count(2), 6 * pace);
            edge.is("it is struck at the later time", x.bar(0, 4), 10);
            x.set(5, 999);
            edge.is("a key counts as soon as its time has passed", x.strike(0, false), 0);
        }
    }

    private void failing() {
        edge.term(3, "then the key does what is told here, or it\nfails for a reason, and nothing else happens then "
                + "(but that the key and its failing are counted)");
        fails("a letter in a jam", KeyEdges::jammed, x -> x.strike(2, false), 1);
        fails("space in a jam", KeyEdges::jammed, x -> x.press(0), 1);
        fails("tab in a jam", KeyEdges::jammed, x -> x.press(1), 1);
        fails("back in a jam", KeyEdges::jammed, x -> x.press(2), 1);
        fails("return in a jam", KeyEdges::jammed, x -> x.press(3), 1);
        fails("a letter at the lock", () -> typed("       "), x -> x.strike(0, true), 2);
        fails("space at the lock", () -> typed("       "), x -> x.press(0), 2);
        fails("a bar that is not back", () -> typed("c"), x -> x.strike(2, false), 4);
        fails("return on the last line", () -> typed("//^ "), x -> x.press(3), 6);
    }

    private void fails(String what, Edge.Maker maker, Edge.Use use, int reason) {
        TypebarMachine x = maker.make();
        String before = still(x);
        int time = x.count(2);
        int failed = x.count(9);
        int pressed = x.count(13);
        edge.is(what, use.on(x), reason);
        edge.is("nothing else by " + what, still(x), before);
        edge.is("time, failing and key by " + what, (x.count(2) - time) + " " + (x.count(9) - failed) + " "
                + (x.count(13) - pressed),
                x.setting(5) + " 1 1");
    }

    /** All but the time, what follows from it, the keys and those that failed. */
    private static String still(TypebarMachine x) {
        StringBuilder told = new StringBuilder();
        for (int what : new int[] {0, 1, 3, 4, 5, 6, 7, 8, 10, 11, 12}) {
            told.append(x.count(what)).append(' ');
        }
        for (int bar = 0; bar < 4; bar++) {
            told.append(x.bar(bar, 3)).append(x.bar(bar, 5)).append(' ');
        }
        for (int line = 0; line < 3; line++) {
            told.append(Rig.line(x, line)).append('|').append(Rig.shades(x, line)).append('|');
        }
        return told + Rig.settings(x) + '|' + Rig.carriage(x) + '|' + x.latest() + '|' + Rig.ribbon(x) + '|' + Rig.ruler(x);
    }

    private void order() {
        edge.term(3, "Of several reasons\nthe one that is told first here counts.");
        TypebarMachine both = jammed();
        both.setMargin(false, 0);
        both.set(4, 0);
        both.setMargin(true, 1);
        edge.is("jammed and locked", Rig.carriage(both), "0 3 1 0");
        edge.is("a letter and space: 1 ahead of 2", both.strike(2, false) * 10 + both.press(0), 11);
        edge.is("a bar that is not back: 1 ahead of 4", both.set(6, 99) * 10 + both.strike(0, false), 51);
        both.press(5);
        edge.is("2 otherwise", both.strike(2, false) * 10 + both.press(0), 22);
        TypebarMachine lock = typed("      c");
        lock.set(5, 1);
        lock.set(7, 9);
        edge.is("locked, and the bar is not back: 2 ahead of 4", lock.strike(2, false), 2);
        edge.is("locked, and the bar would jam: 2 ahead of 5", lock.strike(3, false), 2);
        lock.press(4);
        edge.is("4 and 5 otherwise", lock.strike(2, false) * 10 + lock.strike(3, false), 45);
        TypebarMachine slow = Rig.loaded(SLOW);
        slow.set(5, 1);
        Rig.type(slow, "ab");
        slow.set(7, 99);
        edge.is("not back, and it would jam: 4 ahead of 5", slow.strike(0, false), 4);
        edge.is("no jam came", slow.count(8) + slow.bar(0, 5) + slow.bar(1, 5), 0);
        edge.is("5 otherwise", slow.strike(2, false), 5);
        TypebarMachine last = typed("//");
        last.set(5, 9);
        Rig.type(last, "ab");
        edge.is("return: 1 ahead of 6", last.press(3), 1);
        last.press(5);
        edge.is("6 otherwise", last.press(3), 6);
    }

    private void letter() {
        edge.term(3, "Letter key (a bar, with shift or not): reason 1 if bars are jammed; reason 2 if the carriage is "
                + "locked; reason 4 if\n"
                + "the bar is not back; reason 5 if it jams (below; this changes something).");
        TypebarMachine jam = jammed();
        edge.is("jammed", jam.strike(3, false), 1);
        jam.press(5);
        edge.is("freed", jam.strike(3, false), 0);
        edge.is("at RIGHT", typed("      ").strike(0, false), 0);
        edge.is("locked behind it", typed("       ").strike(0, false), 2);
        TypebarMachine early = typed("a");
        early.set(5, 9);
        edge.is("not back", early.strike(0, false), 4);
        early.undo();
        early.set(5, 10);
        edge.is("back", early.strike(0, false), 0);
        behind("ab", 4, 0, 3, 5);
        behind("ab", 4, 0, 4, 0);

        edge.term(3, "Otherwise the bar is struck: it\nis the latest one that was struck, its letter is printed at the "
                + "line and the column "
                + "of the carriage, and the carriage\ngoes to the next column.");
        TypebarMachine x = Rig.loaded("machine 12 3 0 11 0;speed 20 5 4 10;ribbon 6 5 1;bar a 90;bar b 90");
        x.strike(1, true);
        edge.is("the first place", x.sign(0, 0) * 10 + x.latest(), 661);
        edge.is("the next column", Rig.carriage(x), "0 1 0 0");
        Rig.type(x, "//>a");
        edge.is("the last place", x.sign(2, 11) * 10 + x.latest(), 970);
        edge.is("the column behind it", Rig.carriage(x), "2 12 1 0");
        edge.is("nothing else", x.count(3) + x.lineLength(1), 2);
    }

    private void lock() {
        edge.term(3, "The carriage is locked if its column is WIDTH, or if its column is greater than RIGHT and the "
                + "margins are not\nreleased.");
        TypebarMachine x = Rig.plain();
        for (int column = 2; column <= 8; column++) {
            edge.is("at the column " + column, Rig.carriage(x), "0 " + column + " 0 0");
            edge.is("space there", x.press(0), 0);
        }
        edge.is("behind RIGHT", Rig.carriage(x), "0 9 1 0");
        edge.is("space and letter there", x.press(0) * 10 + x.strike(0, false), 22);
        x.press(4);
        for (int column = 9; column <= 11; column++) {
            edge.is("released, at the column " + column, Rig.carriage(x), "0 " + column + " 0 1");
            edge.is("letter there", x.strike(0, false), 0);
        }
        edge.is("released, at WIDTH", Rig.carriage(x), "0 12 1 1");
        edge.is("space and letter there", x.press(0) * 10 + x.strike(0, false), 22);
        x.setMargin(true, 11);
        edge.is("WIDTH stays locked", Rig.carriage(x), "0 12 1 1");
        x.press(2);
        edge.is("a column before it", Rig.carriage(x), "0 11 0 1");
        TypebarMachine end = Rig.loaded("machine 12 3 0 11 0" + Texts.TAIL);
        end.press(1);
        edge.is("RIGHT in the last column", Rig.carriage(end), "0 11 0 0");
        end.press(0);
        edge.is("behind both", Rig.carriage(end), "0 12 1 0");
        end.press(4);
        edge.is("behind both, released", Rig.carriage(end), "0 12 1 1");
    }

    /** Two letters, one key apart, with CLEAR and NEAR; the second one's reason. */
    private void behind(String letters, int clear, int near, int pace, int due) {
        TypebarMachine x = Rig.loaded(SLOW);
        x.set(7, clear);
        x.set(8, near);
        x.strike(x.barOf(letters.charAt(0)), false);
        x.set(5, pace);
        String what = letters + " with CLEAR " + clear + ", NEAR " + near + ", PACE " + pace;
        edge.is(what, x.strike(x.barOf(letters.charAt(1)), false), due);
        edge.is("jams of " + what, x.count(8), due == 5 ? 1 : 0);
    }

    private void jam() {
        edge.term(3, "The bar B jams if there is a latest bar L that was struck, L is another bar, L is not back");
        TypebarMachine none = Rig.loaded(Texts.with(5, 1, 6, 99, 7, 99, 8, 99) + ";bar a 90;bar b 90");
        edge.is("there is none", none.wouldBe(1, false), 0);
        edge.is("the first letter", none.strike(0, false), 0);
        edge.is("there is one", none.strike(1, false), 5);
        behind("aa", 99, 99, 59, 4);
        behind("aa", 99, 99, 60, 0);
        behind("ab", 99, 0, 59, 5);
        behind("ab", 99, 0, 60, 0);
        behind("ab", 99, 0, 61, 0);
        behind("fa", 99, 0, 77, 5);
        behind("fa", 99, 0, 78, 0);
        behind("af", 99, 0, 59, 5);
        behind("af", 99, 0, 60, 0);
        // a reaches the page at 30, f at 41, b at 33: b is near a alone, which is not the latest one.
        TypebarMachine older = Rig.loaded(SLOW);
        older.set(7, 5);
        older.strike(0, false);
        older.set(5, 2);
        older.strike(5, false);
        older.set(5, 1);
        edge.is("a bar that is near an older one", older.strike(1, false), 0);
    }

    private void jamRoom() {
        edge.term(3, "the difference, without sign, of the times at which both reach the page (the time of the strike "
                + "plus the rise; of B\n"
                + "the time of this key) is less than CLEAR (0 to 99) plus the greater one of 0 and NEAR (0 to 99) less "
                + "the difference\n"
                + "of both angles (without sign)");
        Texts.bounds(edge, 7, 0, 99);
        Texts.bounds(edge, 8, 0, 99);
        behind("ab", 0, 0, 1, 0);
        behind("ab", 1, 0, 1, 0);
        behind("ab", 2, 0, 1, 5);
        behind("ab", 2, 0, 2, 0);
        behind("ab", 0, 20, 19, 5);
        behind("ab", 0, 20, 20, 0);
        behind("ab", 20, 20, 39, 5);
        behind("ab", 20, 20, 40, 0);
        behind("ab", 0, 99, 59, 5);
        behind("ab", 99, 99, 59, 5);
        // Angles 9 apart, both ways.
        behind("ac", 5, 8, 4, 5);
        behind("ac", 5, 8, 5, 0);
        behind("ac", 5, 9, 4, 5);
        behind("ac", 5, 9, 5, 0);
        behind("ac", 5, 10, 5, 5);
        behind("ac", 5, 10, 6, 0);
        behind("ca", 5, 9, 4, 5);
        behind("ca", 5, 9, 5, 0);
        behind("ca", 5, 10, 5, 5);
        behind("ca", 5, 10, 6, 0);
        // NEAR far less than the difference takes nothing from CLEAR.
        behind("fg", 5, 0, 4, 5);
        behind("fg", 5, 0, 5, 0);
        behind("gf", 5, 99, 4, 5);
        behind("gf", 5, 99, 5, 0);
        // d rises 1 longer than a.
        behind("ad", 5, 0, 3, 5);
        behind("ad", 5, 0, 4, 0);
        behind("da", 5, 0, 5, 5);
        behind("da", 5, 0, 6, 0);
        // a reaches the page 8 ahead of f that was struck before it, then 4, 1, 0, 1, 4.
        behind("fa", 8, 0, 1, 0);
        behind("fa", 9, 0, 1, 5);
        behind("fa", 4, 0, 5, 0);
        behind("fa", 5, 0, 5, 5);
        behind("fa", 1, 0, 8, 0);
        behind("fa", 1, 0, 9, 5);
        behind("fa", 0, 0, 9, 0);
        behind("fa", 1, 0, 10, 0);
        behind("fa", 5, 0, 13, 5);
        behind("fa", 4, 0, 13, 0);
        // 90 between the angles of a and f.
        behind("fa", 0, 90, 9, 0);
        behind("fa", 0, 91, 9, 5);

        edge.term(3, "All rises are those of now.");
        riseOfNow(30, 59, 5);
        riseOfNow(30, 60, 0);
        riseOfNow(10, 19, 5);
        riseOfNow(10, 20, 0);
        riseOfNow(31, 61, 5);
        riseOfNow(31, 62, 0);
    }

    /** a is struck with RISE 30, then RISE becomes another, and b comes. */
    private void riseOfNow(int rise, int pace, int due) {
        TypebarMachine x = Rig.loaded(SLOW);
        x.set(7, 99);
        x.strike(0, false);
        x.set(6, rise);
        x.set(5, pace);
        edge.is("b with RISE " + rise + ", PACE " + pace, x.strike(1, false), due);
    }

    private void jammedBars() {
        edge.term(3, "Then B and L are jammed; B is\nnot struck (its letter is not printed, it does not become the latest one, "
                + "and no strike of it is counted).");
        TypebarMachine x = Rig.plain();
        x.strike(0, false);
        x.set(5, 9);
        String line = Rig.line(x, 0);
        String ribbon = Rig.ribbon(x);
        edge.is("9 behind a", x.strike(1, true), 5);
        edge.is("the two are jammed, no other", "" + x.bar(0, 5) + x.bar(1, 5) + x.bar(2, 5) + x.bar(3, 5), "1100");
        edge.is("strikes", x.bar(0, 3) * 10 + x.bar(1, 3), 10);
        edge.is("the latest one", x.latest(), 0);
        edge.is("the page, the ribbon, the carriage", Rig.line(x, 0) + Rig.ribbon(x) + Rig.carriage(x),
                line + ribbon + "0 3 0 0");
        edge.is("counts", Rig.counts(x), "4 2 29 1 0 0 0 0 1 1 0 0 0 2");
        edge.is("b is back as before", x.bar(1, 4), 0);
        TypebarMachine y = Rig.plain();
        y.strike(0, false);
        y.set(5, 10);
        edge.is("10 behind a", y.strike(1, true), 0);
        edge.is("none is jammed", y.bar(0, 5) + y.bar(1, 5), 0);
    }

    private void space() {
        edge.term(3, "Space: reason 1, reason 2 as above.");
        TypebarMachine jam = jammed();
        edge.is("in a jam", jam.press(0), 1);
        jam.press(5);
        edge.is("freed", jam.press(0), 0);
        edge.is("at RIGHT", typed("      ").press(0), 0);
        edge.is("behind it", typed("       ").press(0), 2);
        edge.is("released there", typed("       ^").press(0), 0);
        edge.is("released, in the last column", typed("       ^  ").press(0), 0);
        edge.is("released, at WIDTH", typed("       ^   ").press(0), 2);

        edge.term(3, "Otherwise the carriage goes to the next column.");
        TypebarMachine x = typed("^<<");
        for (int column = 0; column < 12; column++) {
            edge.is("column", x.carriage(1), column);
            x.press(0);
        }
        edge.is("WIDTH", x.carriage(1), 12);
        x.press(0);
        edge.is("no further", x.carriage(1), 12);
    }

    private void bell() {
        edge.term(3, "Whenever the carriage goes to the next column by a letter key or by space, and its column is "
                + "RIGHT less BELL then\n"
                + "(BELL is 0 to RIGHT less LEFT), the bell rings.");
        Texts.bounds(edge, 4, 0, 6);
        rings(0, 8);
        rings(1, 7);
        rings(3, 5);
        rings(5, 3);
        rings(6, 2);
        Texts.takes(edge, "machine 12 3 0 11 11", 4, 11);
        TypebarMachine first = Rig.loaded("machine 12 3 0 11 11" + Texts.TAIL);
        Rig.type(first, "           ");
        edge.is("RIGHT less BELL is 0: no column is before it", first.carriage(1) * 10 + first.count(10), 110);
        TypebarMachine last = Rig.loaded("machine 12 3 0 11 0;speed 20 5 4 10;ribbon 6 5 1;bar a 90");
        Rig.type(last, "          ");
        edge.is("before the last column", last.carriage(1) * 10 + last.count(10), 100);
        last.strike(0, false);
        edge.is("to the last column by a letter", last.carriage(1) * 10 + last.count(10), 111);
        last.strike(0, false);
        edge.is("behind it", last.carriage(1) * 10 + last.count(10), 121);
        TypebarMachine fails = typed(" a");
        fails.set(5, 9);
        edge.is("a letter that fails, a column before it", fails.strike(0, false) * 10 + fails.count(10), 40);
        edge.is("the letter again", fails.strike(0, false) * 10 + fails.count(10), 1);
        edge.is("tab to it", typed(">").carriage(1) * 10 + typed(">").count(10), 50);
        edge.is("back to it, behind a space to it", typed("    <").carriage(1) * 10 + typed("    <").count(10), 51);
        TypebarMachine left = typed("^<");
        left.set(4, 6);
        edge.is("return to it", left.press(3) + left.carriage(1) * 10 + left.count(10), 20);
    }

    /** From the column 0 on, by spaces and letters in turn, the bell rings where it is due and nowhere else. */
    private void rings(int bell, int due) {
        TypebarMachine x = Rig.plain();
        x.set(4, bell);
        Rig.type(x, "^<<");
        for (int column = 1; column <= 12; column++) {
            if ((column + bell) % 2 == 0) {
                x.press(0);
            } else {
                x.strike(0, false);
            }
            edge.is("BELL " + bell + " at the column " + column, x.carriage(1) * 10 + x.count(10),
                    column * 10 + (column >= due ? 1 : 0));
        }
    }

    private void tab() {
        edge.term(3, "Tab: reason 1.");
        TypebarMachine jam = jammed();
        edge.is("in a jam", jam.press(1) * 10 + jam.carriage(1), 13);
        jam.press(5);
        edge.is("freed", jam.press(1) * 10 + jam.carriage(1), 5);
        edge.is("the lock is no reason", typed("       ").press(1), 0);

        edge.term(3, "Otherwise the carriage goes to the least column with a tab stop that is greater than its column (also\n"
                + "greater than RIGHT); if there is none, it goes to RIGHT if its column is less than that, otherwise it stays.");
        int[] two = {5, 5, 5, 5, 5, 10, 10, 10, 10, 10, 10, 11, 12};
        int[] none = {8, 8, 8, 8, 8, 8, 8, 8, 8, 9, 10, 11, 12};
        int[] ends = {11, 11, 11, 11, 11, 11, 11, 11, 11, 11, 11, 11, 12};
        for (int column = 0; column <= 12; column++) {
            edge.is("stops 5 and 10, from " + column, tabbed(column, 5, 10), two[column]);
            edge.is("stops 0 alone, from " + column, tabbed(column, 0, 0), none[column]);
            edge.is("stops 0 and 11, from " + column, tabbed(column, 0, 11), ends[column]);
        }
    }

    private static int tabbed(int from, int stop, int other) {
        TypebarMachine x = typed("^<<" + " ".repeat(from));
        x.setStop(5, false);
        x.setStop(10, false);
        x.setStop(stop, true);
        x.setStop(other, true);
        int reason = x.press(1);
        return reason == 0 ? x.carriage(1) : -reason;
    }

    private void back() {
        edge.term(3, "Back: reason 1.");
        TypebarMachine jam = jammed();
        edge.is("in a jam", jam.press(2) * 10 + jam.carriage(1), 13);
        jam.press(5);
        edge.is("freed", jam.press(2) * 10 + jam.carriage(1), 2);
        edge.is("the lock is no reason", typed("       ").press(2), 0);

        edge.term(3, "Otherwise the carriage goes to the column before its own one; but it stays if its column is 0, or if its\n"
                + "column is LEFT and the margins are not released.");
        backs("^   >>  ", 12, 11);
        backs(">>", 10, 9);
        backs("  ", 4, 3);
        backs(" ", 3, 2);
        backs("", 2, 2);
        backs("^", 2, 1);
        backs("^<", 1, 0);
        backs("^<<", 0, 0);
        TypebarMachine before = typed("^<");
        before.press(3);
        before.setMargin(false, 3);
        edge.is("a column before LEFT, not released", Rig.carriage(before), "1 2 0 0");
        before.press(2);
        edge.is("the column before it", before.carriage(1), 1);
        before.press(2);
        before.press(2);
        edge.is("the column 0", before.carriage(1), 0);
        TypebarMachine zero = Rig.loaded("machine 12 3 0 8 3" + Texts.TAIL);
        zero.press(2);
        edge.is("LEFT 0", zero.carriage(1), 0);
        zero.press(4);
        zero.press(2);
        edge.is("LEFT 0, released", zero.carriage(1), 0);

        edge.term(3, "(Tab and Back do not fail if the carriage\nstays.)");
        TypebarMachine x = typed(">>");
        edge.is("tab behind the last stop", x.press(1), 0);
        TypebarMachine y = Rig.plain();
        edge.is("back at LEFT", y.press(2), 0);
        edge.is("no reason, none failed", x.reason() + y.reason() + x.count(9) + y.count(9), 0);
        edge.is("they are counted", x.count(5) * 10 + y.count(6), 31);
        edge.is("back at 0", typed("^<<").press(2), 0);
    }

    private void backs(String keys, int from, int to) {
        TypebarMachine x = typed(keys);
        edge.is("column", x.carriage(1), from);
        x.press(2);
        edge.is("back from " + from, x.carriage(1), to);
    }

    private void returning() {
        edge.term(3, "Return: reason 1; reason 6 if there is no line that is SPACING (1 to 3; 1 at first) greater than "
                + "its line.");
        TypebarMachine jam = jammed();
        edge.is("in a jam", jam.press(3), 1);
        jam.press(5);
        edge.is("freed", jam.press(3), 0);
        edge.is("SPACING at first", Rig.plain().setting(12), 1);
        int[][] cases = {{1, 1, 0, 6}, {2, 1, 0, 0}, {2, 1, 1, 6}, {3, 1, 1, 0}, {3, 1, 2, 6}, {12, 1, 10, 0},
            {12, 1, 11, 6}, {2, 2, 0, 6}, {3, 2, 0, 0}, {3, 2, 1, 6}, {12, 2, 9, 0}, {12, 2, 10, 6}, {3, 3, 0, 6},
            {4, 3, 0, 0}, {12, 3, 8, 0}, {12, 3, 9, 6}, {12, 3, 11, 6}};
        for (int[] c : cases) {
            TypebarMachine x = Rig.loaded(Texts.with(1, c[0]));
            Rig.type(x, "/".repeat(c[2]));
            x.set(12, c[1]);
            String what = "LINES " + c[0] + ", SPACING " + c[1] + ", line " + c[2];
            edge.is(what, x.press(3), c[3]);
            edge.is("the line then, " + what, x.carriage(0), c[3] == 0 ? c[2] + c[1] : c[2]);
        }
        Edge.Maker maker = Used::machineAndKeys;
        edge.refuses("SPACING 0", Check.ARGUMENT, maker, x -> x.set(12, 0));
        edge.refuses("SPACING 4", Check.ARGUMENT, maker, x -> x.set(12, 4));
        edge.is("the lock is no reason", typed("       ").press(3), 0);

        edge.term(3, "Otherwise the carriage goes to that line and to the column LEFT, and the margins are not released "
                + "any more.");
        TypebarMachine x = typed("^   >>  ");
        edge.is("at WIDTH, released", Rig.carriage(x), "0 12 1 1");
        x.press(3);
        edge.is("the next line", Rig.carriage(x), "1 2 0 0");
        Rig.type(x, "^<<");
        x.setMargin(false, 0);
        x.press(3);
        edge.is("the last line, with LEFT 0", Rig.carriage(x), "2 0 0 0");
        Rig.type(x, "^ ");
        edge.is("a return that fails", x.press(3), 6);
        edge.is("the margins stay released then", Rig.carriage(x), "2 1 0 1");
    }

    private void release() {
        edge.term(3, "Release: the margins are released.");
        TypebarMachine x = typed("       ");
        edge.is("at the lock", x.press(4), 0);
        edge.is("it is none any more", Rig.carriage(x), "0 9 0 1");
        edge.is("again", x.press(4), 0);
        edge.is("released as before", Rig.carriage(x), "0 9 0 1");
        TypebarMachine jam = jammed();
        edge.is("in a jam", jam.press(4), 0);
        edge.is("released in a jam", Rig.carriage(jam), "0 3 0 1");
    }

    private void free() {
        edge.term(3, "Free: the bars that are jammed are jammed no more, and both are back at once "
                + "(the latest bar that was struck stays\nthat); it takes 100 more of the time, whether there was a jam or not.");
        TypebarMachine x = Rig.loaded("machine 12 3 2 8 3;speed 1 99 4 0;ribbon 6 5 1;bar a 0;bar b 0;bar c 90");
        Rig.type(x, "ab");
        edge.is("a jam; when a would be back", x.reason() * 1000 + x.bar(0, 4), 5215);
        edge.is("free", x.press(5), 0);
        edge.is("its time", x.count(2), 103);
        edge.is("none is jammed", x.bar(0, 5) + x.bar(1, 5), 0);
        edge.is("both are back", x.bar(0, 4) + x.bar(1, 4), 0);
        edge.is("the latest bar stays", x.latest(), 0);
        edge.is("it can be struck", x.strike(0, false), 0);
        edge.is("it is not back then", x.bar(0, 4), 216);
        edge.is("free without a jam", x.press(5), 0);
        edge.is("its time", x.count(2), 205);
        edge.is("no bar is back by it", x.bar(0, 4), 115);
        x.strike(1, false);
        edge.is("the next one is far enough", x.bar(1, 3), 1);
        x.set(5, 2);
        x.strike(2, false);
        edge.is("c is 7 ahead of b", x.reason() * 10 + x.bar(2, 3), 1);
        TypebarMachine older = Rig.plain();
        Rig.type(older, "ba");
        older.set(5, 4);
        edge.is("b jams, which was struck before and is back", older.strike(1, false) * 10 + older.bar(1, 4), 50);
        older.set(6, 99);
        edge.is("by a greater RISE both are not", older.bar(0, 4) + " " + older.bar(1, 4), "194 174");
        older.press(5);
        edge.is("both are back at once", older.bar(0, 4) + older.bar(1, 4), 0);
        TypebarMachine never = Rig.plain();
        never.press(5);
        edge.is("free at first", never.count(2) * 10 + never.count(9) + never.latest(), 1199);
    }

    private void place() {
        edge.term(3, "A place of the page (a line and a column) is empty, as long as no letter was printed there, or it "
                + "has the letter\n"
                + "that was printed there latest, and a darkness: that of this letter, plus the one that was there "
                + "before, but not\nabove 9.");
        int[][] cases = {{1, 2, 2}, {4, 2, 8}, {5, 2, 9}, {3, 3, 9}, {2, 4, 8}, {2, 5, 9}, {9, 1, 9}, {9, 2, 9},
            {8, 2, 9}, {1, 9, 9}, {1, 10, 9}};
        for (int[] c : cases) {
            TypebarMachine x = Rig.loaded("machine 12 3 2 8 3;speed 20 5 4 10;ribbon 5 " + c[0] + " 0;bar a 90");
            edge.is("empty", x.sign(0, 2) * 10 + x.darkness(0, 2), 320);
            Rig.type(x, "a" + "<A".repeat(c[1] - 1));
            edge.is(c[1] + " letters of darkness " + c[0], x.darkness(0, 2), c[2]);
            edge.is("the latest letter", x.sign(0, 2), (int) (c[1] == 1 ? 'a' : 'A'));
            edge.is("beside it", x.sign(0, 1) + x.sign(0, 3) + x.sign(1, 2), 96);
        }
        TypebarMachine dry = Rig.loaded("machine 12 3 2 8 3;speed 20 5 4 10;ribbon 5 1 1;bar a 90");
        Rig.type(dry, "aaaaa  /a");
        edge.is("a letter of darkness 0", dry.sign(1, 2) * 10 + dry.darkness(1, 2), 970);
        edge.is("it is not empty", dry.lineLength(1) * 10 + dry.words(1), 31);
        edge.is("its shade", Rig.shades(dry, 1), "  0");
    }

    private void bytes() {
        edge.term(4, "A letter a to z is the letter key of the bar with this letter; a capital letter A\nto Z is the "
                + "same with shift");
        StringBuilder text = new StringBuilder(Texts.with(0, 12));
        for (char letter = 'z'; letter >= 'a'; letter--) {
            text.append(";bar ").append(letter).append(" 90");
        }
        for (char letter = 'a'; letter <= 'z'; letter++) {
            TypebarMachine x = Rig.loaded(text.toString());
            Rig.type(x, "" + letter + (char) (letter - 32));
            edge.is("letter " + letter, Rig.line(x, 0) + x.latest() + x.bar('z' - letter, 3),
                    "  " + letter + (char) (letter - 32) + ('z' - letter) + 2);
        }
        for (char beside : new char[] {'@', '[', '`', '{'}) {
            TypebarMachine x = Rig.loaded(text.toString());
            edge.is("beside the letters: " + beside, Rig.type(x, "" + beside) * 10 + x.reason(), 3);
        }

        edge.term(4, "a space (32) is space; a greater-than sign (62) is tab; a\n"
                + "less-than sign (60) is back; a slash (47) is return; a caret (94) is release; an exclamation mark "
                + "(33) is free");
        int[] bytes = {32, 62, 60, 47, 94, 33};
        for (int key = 0; key < bytes.length; key++) {
            TypebarMachine x = typed("/   ");
            TypebarMachine y = typed("/   ");
            Rig.type(x, "" + (char) bytes[key]);
            y.press(key);
            edge.is("byte " + bytes[key], Rig.all(x), Rig.all(y));
        }
    }

    private void digits() {
        edge.term(4, "A digit 0 to 9 is no key: the\ntime becomes greater by ten times the digit (without PACE), and "
                + "nothing else happens.");
        for (int digit = 0; digit <= 9; digit++) {
            TypebarMachine x = typed("c");
            String before = still(x);
            edge.is("digit " + digit, Rig.type(x, "" + digit), 1);
            edge.is("its time", x.count(2), 20 + 10 * digit);
            edge.is("nothing else", still(x), before);
            edge.is("no key, none that failed", x.count(13) * 10 + x.count(9), 10);
        }
        TypebarMachine jam = jammed();
        edge.is("in a jam", Rig.type(jam, "09") * 1000 + jam.count(2), 2108);
        TypebarMachine locked = typed("       ");
        edge.is("at the lock", Rig.type(locked, "09") * 1000 + locked.count(2), 2230);
        TypebarMachine below = Rig.plain();
        edge.is("the byte before 0 is return", Rig.type(below, "/") * 10 + below.carriage(0), 11);
        TypebarMachine above = Rig.plain();
        edge.is("the byte behind 9 is no key", Rig.type(above, ":") * 10 + above.reason(), 3);
    }

    private void noKeys() {
        edge.term(4, "Any other byte, and a letter\nwithout a bar, fails for reason 3 (it is no key: no time passes by "
                + "it, and no key is counted).");
        String keys = " ><^!/0123456789";
        for (int other = 0; other < 256; other++) {
            TypebarMachine x = Rig.loaded(Rig.PLAIN + ";bar y 90");
            boolean hasBar = "abcdyABCDY".indexOf(other) >= 0;
            boolean isKey = hasBar || keys.indexOf(other) >= 0;
            String before = still(x);
            edge.is("byte " + other, Rig.type(x, "" + (char) other), isKey ? 1 : 0);
            edge.is("its reason", x.reason() * 10 + x.reasonAt(), isKey ? -1 : 30);
            if (!isKey) {
                edge.is("nothing happens", still(x) + x.count(2) + x.count(9) + x.count(13), before + "000");
            }
        }
        TypebarMachine none = Rig.loaded(Texts.with(0, 12));
        edge.is("no bars", Rig.type(none, "a") * 10 + none.reason(), 3);
        TypebarMachine jam = jammed();
        edge.is("in a jam", Rig.type(jam, "e") * 10 + jam.reason(), 3);
        TypebarMachine locked = typed("       ");
        edge.is("at the lock", Rig.type(locked, "E") * 10 + locked.reason(), 3);
    }

    private void strike() {
        edge.promise(41, "Returns 0; the reason if it fails.");
        edge.is("0", Rig.plain().strike(0, false), 0);
        edge.is("reason 1", jammed().strike(0, false), 1);
        edge.is("reason 2", typed("       ").strike(0, false), 2);
        edge.is("reason 4", typed("c").strike(2, true), 4);
        TypebarMachine x = typed("a");
        x.set(5, 9);
        edge.is("reason 5", x.strike(1, true), 5);

        edge.promise(41, "Throws `IndexOutOfBoundsException` if there is no such bar");
        edge.range("bar", Check.INDEX, 0, 3, (y, bar) -> y.strike(bar, false));
        edge.range("bar with shift", Check.INDEX, 0, 3, (y, bar) -> y.strike(bar, true));
        edge.refuses("bar 0 of none", Check.INDEX, () -> Rig.loaded(Texts.with(0, 12)), y -> y.strike(0, false));
    }

    private void press() {
        edge.promise(42, "`key`: 0 space, 1 tab, 2 back, 3 return, 4 release, 5 free");
        String[] due = {"0 4 0 0, 20", "0 5 0 0, 20", "0 2 0 0, 20", "1 2 0 0, 20", "0 3 0 1, 20", "0 3 0 0, 120"};
        for (int key = 0; key <= 5; key++) {
            TypebarMachine x = typed(" ");
            x.press(key);
            edge.is("key " + key, Rig.carriage(x) + ", " + (x.count(2) - 20), due[key]);
        }

        edge.promise(42, "Returns 0; the reason if it fails.");
        edge.is("0", Rig.plain().press(3), 0);
        edge.is("reason 1", jammed().press(1), 1);
        edge.is("reason 2", typed("       ").press(0), 2);
        edge.is("reason 6", typed("//").press(3), 6);

        edge.promise(42, "Throws `IllegalArgumentException` if key is out of range");
        edge.range("key", Check.ARGUMENT, 0, 5, TypebarMachine::press);
    }

    private void type() {
        edge.promise(43, "Types the first n bytes of the input buffer (section 4), one behind the other, up to the "
                + "first one that fails,\n"
                + "and empties the buffer, whatever stands behind them.");
        String[] lines = {"", "  a", "  aB", "  aB", "  aB a", "  aB a"};
        for (int n = 0; n < lines.length; n++) {
            TypebarMachine x = Rig.plain();
            Rig.feed(x, "aB ac");
            edge.is("bytes done", x.type(n), n);
            edge.is("the line", Rig.line(x, 0), n < 5 ? lines[n] : "  aB ac");
            edge.is("the buffer is empty", x.buffered(), 0);
        }
        TypebarMachine x = Rig.plain();
        edge.is("the first one fails", Rig.type(x, "?ab"), 0);
        edge.is("nothing is typed behind it", Rig.line(x, 0) + x.buffered(), "0");
        edge.is("the last one fails", Rig.type(x, "ab?"), 2);
        edge.is("all before it is typed", Rig.line(x, 0) + x.buffered(), "  ab0");
        TypebarMachine full = Rig.plain();
        Rig.feed(full, "1".repeat(499) + "a");
        edge.is("500 bytes", full.type(500), 500);
        edge.is("the last one of them", Rig.line(full, 0) + full.count(2), "  a5010");
        TypebarMachine empty = Rig.plain();
        edge.is("0 bytes of none", empty.type(0), 0);

        edge.promise(43, "Returns how many keys and digits were done (the one that fails not).");
        edge.is("keys and digits", Rig.type(Rig.plain(), "a1 2<3"), 6);
        edge.is("one that is not back", Rig.type(Rig.plain(), "a1cc1"), 3);
        edge.is("one that is locked", Rig.type(Rig.plain(), "         "), 7);
        TypebarMachine jam = Rig.plain();
        jam.set(5, 9);
        edge.is("one that jams", Rig.type(jam, "ab1") * 10 + jam.count(8), 11);
    }

    private void refusedType() {
        edge.promise(43, "Throws `IllegalStateException` if no text was loaded; the buffer stays");
        edge.refuses("no machine", Check.STATE, Used::without, x -> x.type(1));
        edge.refuses("no machine and no such n", Check.STATE, Used::without, x -> x.type(-1));
        edge.refuses("a text with an error", Check.STATE, Used::withoutByAnError, x -> x.type(0));
        edge.answers("a machine", Used::machineAndKeys, x -> x.type(1));

        edge.promise(43, "Throws `IndexOutOfBoundsException` if n is negative or greater than the number of bytes in "
                + "the buffer; the buffer stays");
        edge.range("n", Check.INDEX, 0, 20, TypebarMachine::type);
        edge.refuses("one of none", Check.INDEX, Used::machine, x -> x.type(1));
        Edge.Maker full = () -> {
            TypebarMachine x = Rig.plain();
            Rig.feed(x, "1".repeat(500));
            return x;
        };
        edge.answers("500 of 500", full, x -> x.type(500));
        edge.refuses("501 of 500", Check.INDEX, full, x -> x.type(501));
    }
}
