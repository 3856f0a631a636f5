/** The sentences of the promises 7 to 19: what there is. */
final class StateEdges {

    private static final String OUT_OF_RANGE = "Throws `IllegalArgumentException` if what is out of range";

    private final Edge edge;

    private StateEdges(Edge edge) {
        this.edge = edge;
    }

    static void hold(Edge edge) {
        StateEdges edges = new StateEdges(edge);
        edges.countKeys();
        edges.countFaults();
        edges.countOthers();
        edges.setting();
        edges.carriage();
        edges.bar();
        edges.barOf();
        edges.latest();
        edges.ribbon();
        edges.page();
        edges.stop();
        edges.reason();
        edges.reasonAt();
    }

    private static TypebarMachine jammed() {
        TypebarMachine x = Rig.plain();
        x.set(5, 9);
        Rig.type(x, "ab");
        return x;
    }

    private void countKeys() {
        edge.promise(7, "0 bars, 1 tab stops, 2 the time, 3 letters that were printed");
        edge.is("at first", Rig.counts(Rig.plain()), "4 2 0 0 0 0 0 0 0 0 0 0 0 0");
        TypebarMachine x = Rig.plain();
        x.setStop(0, true);
        x.setStop(11, true);
        edge.is("stops in the first and the last column", x.count(1), 4);
        x.strike(2, false);
        edge.is("a letter", x.count(3), 1);
        x.strike(2, false);
        edge.is("a letter that fails", x.count(3) * 100 + x.count(2), 140);
        x.newPage();
        edge.is("a new page", x.count(3), 1);

        edge.promise(7, "4 spaces, 5 tabs, 6 backs, 7 returns (4 to 7: without those that failed)");
        TypebarMachine jam = jammed();
        for (int key = 0; key <= 3; key++) {
            jam.press(key);
        }
        edge.is("keys that failed", Rig.counts(jam), "4 2 54 1 0 0 0 0 1 5 0 0 0 6");
        jam.press(5);
        for (int key = 0; key <= 3; key++) {
            jam.press(key);
            edge.is("key " + key, jam.count(4 + key), 1);
        }
        edge.is("all of them", Rig.counts(jam), "4 2 199 1 1 1 1 1 1 5 0 0 0 11");
        TypebarMachine stays = Rig.plain();
        Rig.type(stays, "<>>>");
        edge.is("tabs and backs that stay are counted", Rig.counts(stays), "4 2 80 0 0 3 1 0 0 0 0 0 0 4");
        TypebarMachine last = Rig.plain();
        Rig.type(last, "///");
        edge.is("a return on the last line is not", Rig.counts(last), "4 2 60 0 0 0 0 2 0 1 0 0 0 3");
        TypebarMachine locked = Rig.plain();
        Rig.type(locked, "        ");
        edge.is("a space behind the lock is not", Rig.counts(locked), "4 2 160 0 7 0 0 0 0 1 1 0 0 8");
    }

    private void countFaults() {
        edge.promise(7, "8 jams, 9 keys that failed (those by which a jam came, too)");
        TypebarMachine x = jammed();
        edge.is("one jam", x.count(8) * 10 + x.count(9), 11);
        x.strike(2, false);
        edge.is("a key in it", x.count(8) * 10 + x.count(9), 12);
        Rig.type(x, "!a");
        x.strike(1, false);
        edge.is("another jam", x.count(8) * 10 + x.count(9), 23);
        Rig.type(x, "?");
        edge.is("a byte that is no key", x.count(8) * 10 + x.count(9), 23);

        edge.promise(7, "13 keys that were pressed");
        TypebarMachine y = Rig.plain();
        for (int key = 0; key <= 5; key++) {
            y.press(key);
            edge.is("key " + key, y.count(13), key + 1);
        }
        y.strike(2, false);
        y.strike(2, false);
        edge.is("a letter and one that fails", y.count(13), 8);
        Rig.type(y, "0123456789");
        edge.is("digits", y.count(13), 8);
        Rig.type(y, "z");
        edge.is("a byte that is no key", y.count(13), 8);
        y.rest(1);
        edge.is("a rest", y.count(13), 8);
    }

    private void countOthers() {
        edge.promise(7, "10 how often the bell rang");
        TypebarMachine x = Rig.plain();
        Rig.type(x, "  ");
        edge.is("a column before it", x.count(10), 0);
        x.press(0);
        edge.is("at it", x.count(10), 1);
        x.press(0);
        edge.is("a column behind it", x.count(10), 1);

        edge.promise(7, "11 how often the ribbon turned round");
        TypebarMachine short5 = Rig.loaded("machine 20 1 0 19 0;speed 50 1 0 0;ribbon 5 9 1;bar a 90");
        int[] due = {0, 0, 0, 0, 1, 1, 1, 1, 1, 2, 2};
        for (int letters = 0; letters < due.length; letters++) {
            short5.strike(0, false);
            edge.is("letters " + (letters + 1), short5.count(11), due[letters]);
        }

        edge.promise(7, "12 letters that were printed at a place that was not empty");
        TypebarMachine y = Rig.loaded("machine 12 3 2 8 3;speed 20 5 4 10;ribbon 5 1 1;bar a 90");
        Rig.type(y, "a");
        edge.is("at an empty place", y.count(12), 0);
        Rig.type(y, "<a");
        edge.is("at the same place", y.count(12), 1);
        Rig.type(y, "aaaa<");
        edge.is("a letter without darkness", y.sign(0, 6) * 100 + y.darkness(0, 6), 9700);
        Rig.type(y, "a");
        edge.is("at its place", y.count(12), 2);
        y.newPage();
        Rig.type(y, "a");
        edge.is("at that place of a new page", y.count(12), 2);

        edge.promise(7, OUT_OF_RANGE);
        edge.range("count", Check.ARGUMENT, 0, 13, TypebarMachine::count);
    }

    private void setting() {
        edge.promise(8, "0 WIDTH, 1 LINES, 2 LEFT, 3 RIGHT, 4 BELL, 5 PACE, 6 RISE, 7 CLEAR, 8 NEAR, 9 LENGTH, 10 INK, "
                + "11 WEAR, 12 SPACING");
        edge.is("the least ones", Rig.settings(Rig.loaded("machine 10 1 0 1 0;speed 1 1 0 0;ribbon 5 1 0")),
                "10 1 0 1 0 1 1 0 0 5 1 0 1");
        TypebarMachine x = Rig.loaded("machine 40 12 38 39 1;speed 999 99 99 99;ribbon 60 9 3");
        x.set(12, 3);
        edge.is("the greatest ones", Rig.settings(x), "40 12 38 39 1 999 99 99 99 60 9 3 3");

        edge.promise(8, OUT_OF_RANGE);
        edge.range("setting", Check.ARGUMENT, 0, 12, TypebarMachine::setting);
    }

    private void carriage() {
        edge.promise(9, "0 its line, 1 its column, 2 1 if it is locked, otherwise 0, 3 1 if the margins are released, "
                + "otherwise 0");
        TypebarMachine x = Rig.plain();
        edge.is("at first", Rig.carriage(x), "0 2 0 0");
        Rig.type(x, "//      ");
        edge.is("the last line, at RIGHT", Rig.carriage(x), "2 8 0 0");
        x.press(0);
        edge.is("behind RIGHT", Rig.carriage(x), "2 9 1 0");
        x.press(4);
        edge.is("released", Rig.carriage(x), "2 9 0 1");
        Rig.type(x, "   ");
        edge.is("at WIDTH", Rig.carriage(x), "2 12 1 1");

        edge.promise(9, OUT_OF_RANGE);
        edge.range("carriage", Check.ARGUMENT, 0, 3, TypebarMachine::carriage);
    }

    private void bar() {
        edge.promise(10, "0 its letter, as a byte a to z, 1 its angle, 2 its rise, 3 how often it was struck");
        TypebarMachine x = Rig.loaded(Texts.with(5, 20) + ";bar a 0;bar z 180");
        edge.is("the first letter, angle 0", Rig.bar(x, 0), "a 0 14 0 0 0");
        edge.is("the last letter, angle 180", Rig.bar(x, 1), "z 180 14 0 0 0");
        x.strike(1, true);
        edge.is("it was struck with shift", Rig.bar(x, 1), "z 180 14 1 28 0");
        x.strike(1, true);
        edge.is("it was not back", Rig.bar(x, 1), "z 180 14 1 8 0");

        edge.promise(10, "4 in how much time it is back (0 if it is)");
        x.rest(7);
        edge.is("1 before", x.bar(1, 4), 1);
        x.rest(1);
        edge.is("just then", x.bar(1, 4), 0);
        x.rest(1);
        edge.is("1 behind", x.bar(1, 4), 0);
        edge.is("never struck", x.bar(0, 4), 0);

        edge.promise(10, "5 1 if it is jammed, otherwise 0");
        TypebarMachine jam = jammed();
        edge.is("the two of the jam alone", "" + jam.bar(0, 5) + jam.bar(1, 5) + jam.bar(2, 5) + jam.bar(3, 5), "1100");
        jam.press(5);
        edge.is("none behind free", "" + jam.bar(0, 5) + jam.bar(1, 5) + jam.bar(2, 5) + jam.bar(3, 5), "0000");

        edge.promise(10, "Throws `IndexOutOfBoundsException` if there is no such bar");
        edge.range("bar", Check.INDEX, 0, 3, (y, bar) -> y.bar(bar, 0));
        edge.refuses("bar 0 of none", Check.INDEX, () -> Rig.loaded(Texts.with(0, 12)), y -> y.bar(0, 0));
        edge.refuses("no bar and no property", Check.INDEX, Used::machineAndKeys, y -> y.bar(4, 6));

        edge.promise(10, OUT_OF_RANGE);
        edge.range("property", Check.ARGUMENT, 0, 5, (y, what) -> y.bar(0, what));
        edge.range("property", Check.ARGUMENT, 0, 5, (y, what) -> y.bar(3, what));
    }

    private void barOf() {
        edge.promise(11, "Returns the bar of a letter, a byte a to z or A to Z; NONE if there is none (for other numbers, too).");
        StringBuilder text = new StringBuilder(Texts.with(0, 12));
        for (char letter = 'z'; letter >= 'a'; letter--) {
            text.append(";bar ").append(letter).append(" 90");
        }
        TypebarMachine all = Rig.loaded(text.toString());
        for (int letter = -1; letter <= 300; letter++) {
            boolean isSmall = letter >= 'a' && letter <= 'z';
            boolean isCapital = letter >= 'A' && letter <= 'Z';
            edge.is("letter " + letter, all.barOf(letter), isSmall ? 'z' - letter : isCapital ? 'Z' - letter : -1);
        }
        for (int other : new int[] {'a' + 256, 'A' - 256, 'z' + 65536, Integer.MIN_VALUE, Integer.MAX_VALUE,
                Integer.MIN_VALUE + 'a'}) {
            edge.is("number " + other, all.barOf(other), -1);
        }
        TypebarMachine some = Rig.plain();
        edge.is("letters with a bar", some.barOf('a') * 100 + some.barOf('d') * 10 + some.barOf('D'), 33);
        edge.is("letters without one", some.barOf('e') + some.barOf('E') + some.barOf('z') + some.barOf('Z'), -4);
        edge.is("no bars", Rig.loaded(Texts.with(0, 12)).barOf('a'), -1);
    }

    private void latest() {
        edge.promise(12, "Returns the bar that was struck latest; NONE if none was.");
        TypebarMachine x = Rig.plain();
        edge.is("none", x.latest(), -1);
        Rig.type(x, " ><^!1?/");
        edge.is("none by other keys", x.latest(), -1);
        x.strike(3, false);
        edge.is("one", x.latest(), 3);
        x.strike(0, false);
        edge.is("the later one", x.latest(), 0);
        x.set(5, 1);
        x.strike(0, false);
        x.strike(1, false);
        edge.is("not by a key that fails, nor by a jam", x.latest(), 0);
        x.press(5);
        edge.is("not by free", x.latest(), 0);
        while (x.undoable() > 0) {
            x.undo();
        }
        edge.is("none again", x.latest(), -1);
    }

    private void ribbon() {
        edge.promise(13, "Throws `IndexOutOfBoundsException` if there is no such place");
        edge.range("place", Check.INDEX, 0, 5, TypebarMachine::ribbon);
        edge.refuses("place 5 of 5", Check.INDEX, () -> Rig.loaded(Texts.with(9, 5)), x -> x.ribbon(5));
        edge.answers("place 59 of 60", () -> Rig.loaded(Texts.with(9, 60)), x -> x.ribbon(59));
        edge.refuses("place 60 of 60", Check.INDEX, () -> Rig.loaded(Texts.with(9, 60)), x -> x.ribbon(60));

        edge.promise(14, "0 the place at the head, 1 1 if it runs forward, otherwise 0, 2 all ink together, 3 places "
                + "without ink");
        TypebarMachine x = Rig.loaded("machine 20 1 0 19 0;speed 50 1 0 0;ribbon 5 2 2;bar a 90");
        String[] due = {"0 1 10 0", "1 1 8 1", "2 1 6 2", "3 1 4 3", "4 1 2 4", "4 0 0 5", "3 0 0 5", "2 0 0 5", "1 0 0 5",
            "0 0 0 5", "0 1 0 5", "1 1 0 5"};
        for (int letters = 0; letters < due.length; letters++) {
            String told = x.head(0) + " " + x.head(1) + " " + x.head(2) + " " + x.head(3);
            edge.is("after letters " + letters, told, due[letters]);
            x.strike(0, false);
        }

        TypebarMachine most = Rig.loaded(Texts.with(9, 60, 10, 9));
        edge.is("the greatest ribbon", most.head(2) + " " + most.head(3), "540 0");

        edge.promise(14, OUT_OF_RANGE);
        edge.range("head", Check.ARGUMENT, 0, 3, TypebarMachine::head);
    }

    private void page() {
        edge.promise(15, "Returns the letter at a place of the page, as a byte; 32 if it is empty.");
        TypebarMachine x = Rig.loaded("machine 10 2 0 9 0;speed 50 1 0 0;ribbon 5 9 0;bar a 90;bar z 90");
        edge.is("empty", x.sign(0, 0), 32);
        Rig.type(x, "a        Z/Z        a");
        edge.is("the corners", "" + (char) x.sign(0, 0) + (char) x.sign(0, 9) + (char) x.sign(1, 0) + (char) x.sign(1, 9),
                "aZZa");
        edge.is("beside them", x.sign(0, 1) + x.sign(0, 8) + x.sign(1, 1) + x.sign(1, 8), 128);

        edge.promise(16, "Returns the darkness at a place of the page; 0 if it is empty.");
        edge.is("the corners", "" + x.darkness(0, 0) + x.darkness(0, 9) + x.darkness(1, 0) + x.darkness(1, 9), "9999");
        edge.is("beside them", x.darkness(0, 1) + x.darkness(0, 8) + x.darkness(1, 1) + x.darkness(1, 8), 0);
        x.newPage();
        edge.is("a new page", x.darkness(0, 0) * 100 + x.sign(0, 0), 32);

        edge.promise(15, "Throws `IndexOutOfBoundsException` if there is no such line or column (0 to WIDTH less 1)");
        edge.range("line", Check.INDEX, 0, 2, (y, line) -> y.sign(line, 11));
        edge.range("column", Check.INDEX, 0, 11, (y, column) -> y.sign(2, column));
        edge.promise(16, "Throws `IndexOutOfBoundsException` if there is no such line or column (0 to WIDTH less 1)");
        edge.range("line", Check.INDEX, 0, 2, (y, line) -> y.darkness(line, 11));
        edge.range("column", Check.INDEX, 0, 11, (y, column) -> y.darkness(2, column));
    }

    private void stop() {
        edge.promise(17, "Returns whether a column has a tab stop.");
        TypebarMachine x = Rig.loaded(Texts.with(0, 12) + ";tab 0;tab 11");
        edge.is("the first, the second, the last but one, the last", "" + x.isStop(0) + x.isStop(1) + x.isStop(10) + x.isStop(11),
                "truefalsefalsetrue");

        edge.promise(17, "Throws `IndexOutOfBoundsException` if there is no such column (0 to WIDTH less 1)");
        edge.range("column", Check.INDEX, 0, 11, TypebarMachine::isStop);
        edge.refuses("column 39 of 39", Check.INDEX, () -> Rig.loaded(Texts.with(0, 39)), y -> y.isStop(39));
        edge.refuses("column 40 of 40", Check.INDEX, () -> Rig.loaded(Texts.with(0, 40)), y -> y.isStop(40));
    }

    private void reason() {
        edge.promise(18, "Returns the reason for which the latest key failed, or the latest text to type stopped; 0 if "
                + "it did not "
                + "(also for a text of 0 bytes), or if there was none.");
        TypebarMachine x = Rig.plain();
        edge.is("there was none", x.reason(), 0);
        x.strike(2, false);
        edge.is("a key that did not fail", x.reason(), 0);
        x.strike(2, false);
        edge.is("a key that failed", x.reason(), 4);
        x.press(4);
        edge.is("the next one did not", x.reason(), 0);
        Rig.type(x, "a?");
        edge.is("a text that stopped", x.reason(), 3);
        x.type(0);
        edge.is("a text of 0 bytes", x.reason(), 0);
        Rig.type(x, "?");
        Rig.type(x, "0");
        edge.is("a text of a digit", x.reason(), 0);
        Rig.type(x, "?");
        Rig.type(x, "^");
        edge.is("a text that did not stop", x.reason(), 0);
        Rig.type(x, "?");
        x.rest(1);
        x.set(12, 1);
        x.newPage();
        edge.is("other changes are no keys", x.reason(), 3);
    }

    private void reasonAt() {
        edge.promise(19, "Returns the index of the byte at which the latest text to type stopped; NONE if it did not, "
                + "if there was none, "
                + "or if a key was pressed by itself since then.");
        TypebarMachine x = Rig.plain();
        edge.is("there was none", x.reasonAt(), -1);
        Rig.type(x, "?");
        edge.is("at the first byte", x.reasonAt(), 0);
        Rig.type(x, "^^?");
        edge.is("at the last byte", x.reasonAt(), 2);
        Rig.type(x, "^^");
        edge.is("it did not stop", x.reasonAt(), -1);
        Rig.type(x, "?");
        x.type(0);
        edge.is("a text of 0 bytes", x.reasonAt(), -1);
        for (int key = 0; key <= 5; key++) {
            Rig.type(x, "5?");
            edge.is("at the byte 1", x.reasonAt(), 1);
            x.press(key);
            edge.is("key " + key + " by itself", x.reasonAt(), -1);
        }
        Rig.type(x, "5?");
        x.strike(2, false);
        edge.is("a letter by itself", x.reasonAt(), -1);
        Rig.type(x, "?");
        x.strike(2, false);
        edge.is("a letter that fails by itself", x.reason() * 10 + x.reasonAt(), 39);
        TypebarMachine full = Rig.plain();
        Rig.feed(full, "1".repeat(499) + "?");
        edge.is("499 digits are done", full.type(500), 499);
        edge.is("at the byte 499", full.reasonAt(), 499);
    }
}
