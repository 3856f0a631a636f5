/** The sentences of the promises 20 to 28: looks. */
final class LooksEdges {

    private static final String NO_LINE = "Throws `IndexOutOfBoundsException` if there is no such line";

    private final Edge edge;

    private LooksEdges(Edge edge) {
        this.edge = edge;
    }

    static void hold(Edge edge) {
        LooksEdges edges = new LooksEdges(edge);
        edges.lineLength();
        edges.words();
        edges.letters();
        edges.palest();
        edges.meanDarkness();
        edges.inkShare();
        edges.slowest();
        edges.nextStop();
        edges.bellIn();
    }

    /** Ten columns between margins at both ends, two lines; bars a and b, which never jam; INK 9, WEAR 0. */
    private static TypebarMachine small() {
        return Rig.loaded("machine 10 2 0 9 0;speed 50 1 0 0;ribbon 5 9 0;bar a 90;bar b 90");
    }

    private static TypebarMachine typed(String keys) {
        TypebarMachine x = small();
        Rig.type(x, keys);
        return x;
    }

    private void lineLength() {
        edge.promise(20, "Returns the number of the last column of a line that is not empty, plus 1; 0 if all are empty.");
        edge.is("all are empty", typed("    ").lineLength(0), 0);
        edge.is("the first column alone", typed("a").lineLength(0), 1);
        edge.is("the second one alone", typed(" a").lineLength(0), 2);
        edge.is("the last column alone", typed("         a").lineLength(0), 10);
        edge.is("the last but one", typed("        a").lineLength(0), 9);
        edge.is("a full line", typed("abababababa").lineLength(0), 10);
        edge.is("the line behind it", typed("abababababa").lineLength(1), 0);
        edge.is("the last line", typed("/   a").lineLength(1), 4);
        edge.is("the line before it", typed("/   a").lineLength(0), 0);
        edge.is("the line before a full one", typed("/ababababab").lineLength(0), 0);
        TypebarMachine pale = typed("a");
        dry(pale);
        Rig.type(pale, "  a");
        edge.is("a letter without darkness", pale.lineLength(0), 3);
        edge.promise(20, NO_LINE);
        edge.range("line", Check.INDEX, 0, 2, TypebarMachine::lineLength);
    }

    /** Takes all ink from the ribbon, and leaves the page empty. */
    private static void dry(TypebarMachine x) {
        x.set(11, 3);
        for (int i = 0; i < 3; i++) {
            x.newPage();
            Rig.type(x, "ababababab");
        }
        x.newPage();
    }

    private void words() {
        edge.promise(21, "Returns how many words a line has: longest rows of places, one next to the other, that are not empty.");
        edge.is("an empty line", typed("").words(0), 0);
        edge.is("one letter at the begin", typed("a").words(0), 1);
        edge.is("one letter at the end", typed("         a").words(0), 1);
        edge.is("two side by side", typed("ab").words(0), 1);
        edge.is("two with one place between", typed("a b").words(0), 2);
        edge.is("one at each end", typed("a        b").words(0), 2);
        edge.is("the most", typed("a b a b a").words(0), 5);
        edge.is("the most, to the end", typed(" a b a b a").words(0), 5);
        edge.is("a full line", typed("ababababab").words(0), 1);
        edge.is("a full line and the begin of the next one", typed("ababababab/a").words(1), 1);
        edge.is("the end of a line and an empty one", typed("         a").words(1), 0);
        edge.is("an empty line ahead of a full one", typed("/ababababab").words(0), 0);
        edge.promise(21, NO_LINE);
        edge.range("line", Check.INDEX, 0, 2, TypebarMachine::words);
    }

    private void letters() {
        edge.promise(22, "Returns at how many places of the page there is a letter, a byte a to z or A to Z (capital "
                + "letters are others); "
                + "0 for other numbers.");
        TypebarMachine x = Rig.loaded("machine 10 2 0 9 0;speed 50 1 0 0;ribbon 5 9 0;bar a 90;bar z 90");
        edge.is("an empty page", x.letters('a') + x.letters(32), 0);
        Rig.type(x, "aaazzAAAAZ/aZZ      z");
        edge.is("a, z, A, Z", x.letters('a') + " " + x.letters('z') + " " + x.letters('A') + " " + x.letters('Z'), "4 3 4 3");
        for (int other : new int[] {32, 0, -1, 'a' - 1, 'z' + 1, 'A' - 1, 'Z' + 1, 'b', 'B', 'a' + 256, Integer.MIN_VALUE,
                Integer.MAX_VALUE}) {
            edge.is("number " + other, x.letters(other), 0);
        }
        TypebarMachine full = typed("aaaaaaaaaa/aaaaaaaaaa");
        edge.is("a full page", full.letters('a'), 20);
        Rig.type(full, "<b");
        edge.is("one less", full.letters('a') * 10 + full.letters('b'), 191);
    }

    private void palest() {
        edge.promise(23, "Returns WIDTH times the line plus the column of the place with the least darkness, of those "
                + "that are not empty, "
                + "of several the first one; NONE if all are empty.");
        edge.is("all are empty", small().palest(), -1);
        edge.is("all places of the greatest page are empty", Rig.loaded(Texts.with(0, 40, 1, 12)).palest(), -1);
        TypebarMachine great = Rig.loaded("machine 40 12 38 39 0" + Texts.TAIL + ";bar a 90");
        Rig.type(great, "///////////> <a");
        edge.is("the last place of the greatest page alone", great.palest(), 479);
        edge.is("the first place alone", typed("a").palest(), 0);
        edge.is("the last place alone", typed("/         a").palest(), 19);
        edge.is("the end of the first line", typed("         a/a").palest(), 9);
        edge.is("the begin of the second one", typed("/ab").palest(), 10);
        edge.is("the first of several", typed("  abab/ab").palest(), 2);
        TypebarMachine x = Rig.loaded("machine 10 2 0 9 0;speed 50 1 0 0;ribbon 5 9 1;bar a 90");
        Rig.type(x, "aaaaaa");
        edge.is("the palest one", x.palest(), 5);
        Rig.type(x, "aaaa");
        edge.is("the first of the palest ones", x.palest(), 5);
        Rig.type(x, "/a");
        edge.is("a paler one behind them", x.palest(), 10);
        TypebarMachine pale = small();
        dry(pale);
        Rig.type(pale, "   a");
        edge.is("a letter without darkness", pale.palest(), 3);
        pale.newRibbon();
        Rig.type(pale, "<<<<b");
        edge.is("a darker one before it", pale.palest(), 3);
    }

    private void meanDarkness() {
        edge.promise(24, "Returns the sum of the darkness of all places that are not empty, converted to double, "
                + "divided by their number, "
                + "converted to double; 0.0 if there are none.");
        edge.is("there are none", small().meanDarkness(), 0.0);
        edge.is("one", typed("a").meanDarkness(), 9.0);
        edge.is("all", typed("aaaaaaaaaa/aaaaaaaaaa").meanDarkness(), 9.0);
        TypebarMachine x = Rig.loaded("machine 10 2 0 9 0;speed 50 1 0 0;ribbon 5 2 1;bar a 90");
        Rig.type(x, "aaaaaa");
        edge.is("eleven sixths", x.meanDarkness(), 11.0 / 6.0);
        TypebarMachine pale = small();
        dry(pale);
        Rig.type(pale, "aa");
        edge.is("two without darkness", pale.meanDarkness(), 0.0);
        pale.newRibbon();
        Rig.type(pale, "a");
        edge.is("they are places, too", pale.meanDarkness(), 9.0 / 3.0);
        pale.newPage();
        edge.is("a new page", pale.meanDarkness(), 0.0);
    }

    private void inkShare() {
        edge.promise(25, "Returns all ink on the ribbon, converted to float, divided by LENGTH times INK, converted to float.");
        TypebarMachine x = Rig.loaded("machine 10 2 0 9 0;speed 50 1 0 0;ribbon 60 9 1;bar a 90");
        edge.is("all ink", x.inkShare(), 1.0f);
        Rig.type(x, "a");
        edge.is("one less", x.inkShare(), 539.0f / 540.0f);
        TypebarMachine dry = small();
        dry(dry);
        edge.is("no ink", dry.inkShare(), 0.0f);
        TypebarMachine least = Rig.loaded("machine 10 2 0 9 0;speed 50 1 0 0;ribbon 5 1 1;bar a 90");
        Rig.type(least, "aaaa");
        edge.is("the last of the least ribbon", least.inkShare(), 1.0f / 5.0f);
        Rig.type(least, "a");
        edge.is("none of it", least.inkShare(), 0.0f);
    }

    private void slowest() {
        edge.promise(26, "Returns the bar with the greatest rise, of several the smallest number; NONE without bars.");
        edge.is("no bars", Rig.loaded(Texts.with(0, 12)).slowest(), -1);
        edge.is("one bar", Rig.loaded(Texts.with(0, 12) + ";bar a 90").slowest(), 0);
        edge.is("the first of all", Rig.loaded(Texts.with(0, 12) + ";bar a 0;bar b 1;bar c 179").slowest(), 0);
        edge.is("the last of all", Rig.loaded(Texts.with(0, 12) + ";bar a 1;bar b 179;bar c 180").slowest(), 2);
        edge.is("the smaller number", Rig.loaded(Texts.with(0, 12) + ";bar a 1;bar b 180;bar c 0").slowest(), 1);
        edge.is("one rise for all", Rig.loaded(Texts.with(0, 12) + ";bar a 99;bar b 81;bar c 90").slowest(), 0);
    }

    private void nextStop() {
        edge.promise(27, "Returns the column to which tab goes from a column (section 3; without a jam).");
        nextStops(Rig.PLAIN, "5 5 5 5 5 10 10 10 10 10 10 11 12");
        nextStops(Texts.with(0, 12), "8 8 8 8 8 8 8 8 8 9 10 11 12");
        nextStops(Texts.with(0, 12) + ";tab 0", "8 8 8 8 8 8 8 8 8 9 10 11 12");
        nextStops(Texts.with(0, 12) + ";tab 1", "1 8 8 8 8 8 8 8 8 9 10 11 12");
        nextStops(Texts.with(0, 12) + ";tab 8", "8 8 8 8 8 8 8 8 8 9 10 11 12");
        nextStops(Texts.with(0, 12) + ";tab 9;tab 7", "7 7 7 7 7 7 7 9 9 9 10 11 12");
        nextStops(Texts.with(0, 12) + ";tab 11", "11 11 11 11 11 11 11 11 11 11 11 11 12");
        TypebarMachine jam = Rig.plain();
        jam.set(5, 1);
        Rig.type(jam, "ab");
        edge.is("in a jam", jam.reason() * 100 + jam.nextStop(2), 505);

        edge.promise(27, "`column`: the column, 0 to WIDTH");
        edge.range("column", Check.INDEX, 0, 12, TypebarMachine::nextStop);
        edge.promise(27, "Throws `IndexOutOfBoundsException` if there is no such column");
        edge.answers("column 40 of 40", () -> Rig.loaded(Texts.with(0, 40)), x -> x.nextStop(40));
        edge.refuses("column 41 of 40", Check.INDEX, () -> Rig.loaded(Texts.with(0, 40)), x -> x.nextStop(41));
        edge.refuses("column 11 of 10", Check.INDEX, () -> Rig.loaded(Texts.with(0, 10)), x -> x.nextStop(11));
    }

    private void nextStops(String text, String due) {
        StringBuilder told = new StringBuilder();
        TypebarMachine x = Rig.loaded(text);
        for (int column = 0; column <= 12; column++) {
            told.append(column == 0 ? "" : " ").append(x.nextStop(column));
        }
        edge.is("from each column of " + text, told.toString(), due);
    }

    private void bellIn() {
        edge.promise(28, "Returns how many spaces are needed until the bell rings, at least 1; "
                + "NONE if it would not ring by spaces alone on this line (a jam does not matter).");
        TypebarMachine x = Rig.plain();
        for (int column = 2; column <= 9; column++) {
            edge.is("at the column " + column, x.carriage(1) * 100 + x.bellIn(), column * 100 + (column < 5 ? 5 - column : -1));
            x.press(0);
        }
        edge.is("locked", x.carriage(2) * 10 + x.bellIn(), 9);
        Rig.type(x, "^   ");
        edge.is("behind the last column", x.carriage(1) * 10 + x.bellIn(), 119);
        TypebarMachine none = Rig.loaded(Texts.with(4, 0));
        edge.is("BELL 0", none.bellIn(), 6);
        Rig.type(none, "     ");
        edge.is("a column before RIGHT", none.bellIn(), 1);
        none.press(0);
        edge.is("at RIGHT", none.bellIn(), -1);
        TypebarMachine most = Rig.loaded(Texts.with(4, 6));
        edge.is("BELL RIGHT less LEFT, at LEFT", most.bellIn(), -1);
        Rig.type(most, "^<");
        edge.is("a column before LEFT", most.bellIn(), 1);
        most.press(2);
        edge.is("the column 0", most.bellIn(), 2);
        TypebarMachine jam = Rig.plain();
        jam.set(5, 1);
        Rig.type(jam, "ab");
        edge.is("in a jam", jam.reason() * 10 + jam.bellIn(), 52);
    }
}
