import java.util.List;

/** What is told of exceptions under "Terms", 6, of a missing machine at each method, and of the 512 calls. */
final class RefusedEdges {

    private static final String NO_MACHINE = "Throws `IllegalStateException` if no text was loaded";

    /** A method with arguments that are right on Used.machineAndKeys(), and with others that are wrong besides. */
    private record Method(int promise, String name, Edge.Use right, Edge.Use wrong) {
    }

    private static final List<Method> METHODS = List.of(
            new Method(7, "count", x -> x.count(0), x -> x.count(14)),
            new Method(8, "setting", x -> x.setting(0), x -> x.setting(13)),
            new Method(9, "carriage", x -> x.carriage(0), x -> x.carriage(4)),
            new Method(10, "bar", x -> x.bar(0, 0), x -> x.bar(-1, 6)),
            new Method(11, "barOf", x -> x.barOf('a'), x -> x.barOf(-1)),
            new Method(12, "latest", TypebarMachine::latest, TypebarMachine::latest),
            new Method(13, "ribbon", x -> x.ribbon(0), x -> x.ribbon(60)),
            new Method(14, "head", x -> x.head(0), x -> x.head(4)),
            new Method(15, "sign", x -> x.sign(0, 0), x -> x.sign(-1, -1)),
            new Method(16, "darkness", x -> x.darkness(0, 0), x -> x.darkness(-1, -1)),
            new Method(17, "isStop", x -> x.isStop(0), x -> x.isStop(40)),
            new Method(18, "reason", TypebarMachine::reason, TypebarMachine::reason),
            new Method(19, "reasonAt", TypebarMachine::reasonAt, TypebarMachine::reasonAt),
            new Method(20, "lineLength", x -> x.lineLength(0), x -> x.lineLength(12)),
            new Method(21, "words", x -> x.words(0), x -> x.words(12)),
            new Method(22, "letters", x -> x.letters('a'), x -> x.letters(0)),
            new Method(23, "palest", TypebarMachine::palest, TypebarMachine::palest),
            new Method(24, "meanDarkness", TypebarMachine::meanDarkness, TypebarMachine::meanDarkness),
            new Method(25, "inkShare", TypebarMachine::inkShare, TypebarMachine::inkShare),
            new Method(26, "slowest", TypebarMachine::slowest, TypebarMachine::slowest),
            new Method(27, "nextStop", x -> x.nextStop(0), x -> x.nextStop(41)),
            new Method(28, "bellIn", TypebarMachine::bellIn, TypebarMachine::bellIn),
            new Method(29, "wouldBe", x -> x.wouldBe(0, false), x -> x.wouldBe(26, true)),
            new Method(30, "freeIn", x -> x.freeIn(0), x -> x.freeIn(26)),
            new Method(31, "paceOf", x -> x.paceOf(0, 0), x -> x.paceOf(-1, 26)),
            new Method(32, "worstPair", TypebarMachine::worstPair, TypebarMachine::worstPair),
            new Method(33, "wouldType", x -> x.wouldType(0, 0), x -> x.wouldType(-1, 6)),
            new Method(34, "paceFor", x -> x.paceFor(0), x -> x.paceFor(-1)),
            new Method(35, "keysTo", x -> x.keysTo(0), x -> x.keysTo(41)),
            new Method(36, "printsLeft", TypebarMachine::printsLeft, TypebarMachine::printsLeft),
            new Method(37, "writeLine", x -> x.writeLine(0), x -> x.writeLine(12)),
            new Method(38, "writeShades", x -> x.writeShades(0), x -> x.writeShades(12)),
            new Method(39, "writeRuler", TypebarMachine::writeRuler, TypebarMachine::writeRuler),
            new Method(41, "strike", x -> x.strike(0, false), x -> x.strike(26, true)),
            new Method(42, "press", x -> x.press(0), x -> x.press(6)),
            new Method(43, "type", x -> x.type(0), x -> x.type(-1)),
            new Method(44, "setStop", x -> x.setStop(0, true), x -> x.setStop(40, true)),
            new Method(45, "setMargin", x -> x.setMargin(false, 0), x -> x.setMargin(true, 40)),
            new Method(46, "set", x -> x.set(5, 1), x -> x.set(0, 0)),
            new Method(47, "rest", x -> x.rest(1), x -> x.rest(0)),
            new Method(48, "newRibbon", TypebarMachine::newRibbon, TypebarMachine::newRibbon),
            new Method(49, "newPage", TypebarMachine::newPage, TypebarMachine::newPage),
            new Method(52, "save", x -> x.save(0), x -> x.save(2)));

    private final Edge edge;

    private RefusedEdges(Edge edge) {
        this.edge = edge;
    }

    static void hold(Edge edge) {
        RefusedEdges edges = new RefusedEdges(edge);
        for (Method method : METHODS) {
            edge.promise(method.promise(), NO_MACHINE);
            edges.needsMachine(method);
        }
        edges.asking();
        edges.missingMachine();
        edges.missingIndex();
        edges.firstOfSeveral();
        edges.nothingChanged();
        edges.none();
        edges.calls512();
    }

    private void needsMachine(Method method) {
        edge.answers(method.name() + " of a machine", Used::machineAndKeys, method.right());
        edge.refuses(method.name() + " of a new object", Check.STATE, TypebarMachine::new, method.right());
        edge.refuses(method.name() + " ahead of load", Check.STATE, Used::without, method.right());
        edge.refuses(method.name() + " behind a load that failed", Check.STATE, Used::withoutByAnError, method.right());
        edge.refuses(method.name() + " with wrong arguments", Check.STATE, Used::without, method.wrong());
    }

    /** Those up to 36 only ask; of those behind them the ones that write a text change that alone. */
    private void asking() {
        edge.term(6, "what would be (nothing is changed)");
        for (Method method : METHODS) {
            if (method.promise() <= 36) {
                edge.keeps(method.name(), Used::machineAndKeys, method.right());
            }
        }
        edge.keeps("wouldType of all bytes", Used::machineAndKeys, x -> x.wouldType(20, 0));
        edge.keeps("paceFor of all bytes", Used::machineAndKeys, x -> x.paceFor(20));
        edge.keeps("parseError", Used::machineAndKeys, TypebarMachine::parseError);
        edge.keeps("errorPosition", Used::machineAndKeys, TypebarMachine::errorPosition);
        edge.keeps("buffered", Used::machineAndKeys, TypebarMachine::buffered);
        edge.keeps("undoable", Used::machineAndKeys, TypebarMachine::undoable);
        edge.keeps("textByte", Used::machineAndKeys, x -> x.textByte(0));
    }

    private void missingMachine() {
        edge.term(6, "IllegalStateException is thrown if no text was loaded.");
        edge.is("methods that need a machine", METHODS.size(), 43);
        TypebarMachine x = new TypebarMachine();
        edge.is("no text", Edge.isLoaded(x), false);
        int n = Rig.feed(x, "machine 9");
        try {
            x.load(n);
        } catch (IllegalArgumentException e) {
            edge.is("a text with an error", Edge.isLoaded(x), false);
        }
        Rig.load(x, Rig.PLAIN);
        edge.is("a text", Edge.isLoaded(x), true);
        int again = Rig.feed(x, "machine 9");
        try {
            x.load(again);
        } catch (IllegalArgumentException e) {
            edge.is("a text with an error behind it", Edge.isLoaded(x), true);
        }
    }

    private void missingIndex() {
        edge.term(6, "IndexOutOfBoundsException is thrown if there is no such bar,\nline, column or index.");
        edge.range("bar", Check.INDEX, 0, 3, (x, bar) -> x.bar(bar, 5));
        edge.range("line", Check.INDEX, 0, 2, (x, line) -> x.sign(line, 0));
        edge.range("column", Check.INDEX, 0, 11, (x, column) -> x.sign(0, column));
        edge.range("column of the carriage", Check.INDEX, 0, 12, TypebarMachine::nextStop);
        edge.range("index", Check.INDEX, 0, 5, TypebarMachine::ribbon);
    }

    private void firstOfSeveral() {
        edge.term(6, "If several exceptions apply, the one that is listed first at the method is thrown.");
        edge.refuses("3: n is negative, and there is no text", Check.INDEX, TypebarMachine::new, x -> x.load(-1));
        edge.refuses("10: bar ahead of what", Check.INDEX, Used::machineAndKeys, x -> x.bar(4, 6));
        edge.refuses("10: what alone", Check.ARGUMENT, Used::machineAndKeys, x -> x.bar(3, 6));
        edge.refuses("33: n ahead of what", Check.INDEX, Used::machineAndKeys, x -> x.wouldType(21, 6));
        edge.refuses("33: what alone", Check.ARGUMENT, Used::machineAndKeys, x -> x.wouldType(20, 6));
        edge.refuses("52: no machine ahead of the slot", Check.STATE, Used::without, x -> x.save(2));
        edge.refuses("52: the slot alone", Check.INDEX, Used::machineAndKeys, x -> x.save(2));
        edge.refuses("53: the slot ahead of what is saved", Check.INDEX, Used::without, x -> x.restore(2));
        edge.refuses("53: what is saved alone", Check.STATE, Used::without, x -> x.restore(1));
        for (Method method : METHODS) {
            edge.refuses(method.name() + ": no machine ahead of all", Check.STATE, Used::withoutByAnError, method.wrong());
        }
    }

    private void nothingChanged() {
        edge.term(6, "A call of\na method that throws an exception changes nothing, except that load, by "
                + "IllegalArgumentException, empties the input\n"
                + "buffer and sets parseError() and errorPosition().");
        edge.refuses("load of too many bytes", Check.INDEX, Used::machineAndKeys, x -> x.load(21));
        edge.refusesLoad("load of a text with an error", Used::machineAndKeys, x -> x.load(20));
        TypebarMachine x = Used.machineAndKeys();
        edge.is("ahead of it", x.buffered() + " " + x.parseError() + " " + x.errorPosition(), "20 2 8");
        try {
            x.load(20);
        } catch (IllegalArgumentException e) {
            edge.is("behind it", x.buffered() + " " + x.parseError() + " " + x.errorPosition(), "0 1 0");
        }
        // Of all others that are refused, edge.refuses() compares the object with one that was not called.
        edge.refuses("a bar that is not there", Check.INDEX, Used::machineAndKeys, y -> y.strike(4, false));
        edge.refuses("a value out of range", Check.ARGUMENT, Used::machineAndKeys, y -> y.set(5, 1000));
    }

    private void none() {
        edge.term(6, "The constants: `NONE = -1`: The value for \"none\", -1.");
        edge.is("NONE", TypebarMachine.NONE, -1);
    }

    private void calls512() {
        edge.begin("What it is", "An object is used for at most 512 calls after it has been made; what later calls "
                + "answer is free.");
        TypebarMachine x = Rig.plain();
        // An append for twenty bytes, and the load.
        int made = (Rig.PLAIN.length() + 19) / 20 + 1;
        for (int call = made + 1; call < 512; call++) {
            edge.is("call " + call, x.rest(9999), 0);
        }
        edge.is("call 512", x.count(2), 9999 * (511 - made));

        // The greatest time that 512 calls can bring is far below the greatest int.
        TypebarMachine far = Rig.loaded("machine 12 3 2 8 3;speed 999 99 99 99;ribbon 60 9 3");
        for (int round = 0; round < 18; round++) {
            Rig.feed(far, "!".repeat(500));
            edge.is("500 keys of 1099, round " + round, far.type(500), 500);
        }
        edge.is("the time", far.count(2), 18 * 500 * 1099);
        edge.is("the keys", far.count(13), 9000);
    }
}
