/** The sentences of the promises 29 to 36: what would be. */
final class WouldEdges {

    private static final String NO_BAR = "Throws `IndexOutOfBoundsException` if there is no such bar";
    private static final String NO_BYTES = "Throws `IndexOutOfBoundsException` if n is negative or greater than the "
            + "number of bytes in the buffer";

    // Rises 30, 30, 30, 31, 39, 39.
    private static final String SLOW = "machine 12 3 2 8 3;speed 500 30 4 12;ribbon 6 5 1;"
            + "bar a 90;bar b 90;bar c 81;bar d 80;bar e 0;bar f 180";

    private final Edge edge;

    private WouldEdges(Edge edge) {
        this.edge = edge;
    }

    static void hold(Edge edge) {
        WouldEdges edges = new WouldEdges(edge);
        edges.wouldBe();
        edges.freeIn();
        edges.paceOf();
        edges.worstPair();
        edges.wouldTypeBytes();
        edges.wouldTypeWhat();
        edges.paceFor();
        edges.keysTo();
        edges.printsLeft();
    }

    private void wouldBe() {
        edge.promise(29, "Returns the reason for which a letter key would fail now; 0 if it would not.");
        TypebarMachine x = Rig.loaded(SLOW);
        edge.is("it would not", x.wouldBe(0, false) * 10 + x.wouldBe(0, true), 0);
        x.strike(0, false);
        would(x, 0, 59, 4);
        would(x, 0, 60, 0);
        would(x, 1, 15, 5);
        would(x, 1, 16, 0);
        edge.is("a jam", x.set(5, 15) + x.strike(1, false), 21);
        would(x, 2, 999, 1);
        x.press(5);
        would(x, 2, 999, 0);
        Rig.type(x, "      ");
        edge.is("locked", Rig.carriage(x), "0 9 1 0");
        would(x, 2, 999, 2);
        x.press(2);
        would(x, 2, 999, 0);

        edge.promise(29, NO_BAR);
        edge.range("bar", Check.INDEX, 0, 3, (y, bar) -> y.wouldBe(bar, false));
        edge.range("bar with shift", Check.INDEX, 0, 3, (y, bar) -> y.wouldBe(bar, true));
    }

    private void would(TypebarMachine x, int bar, int pace, int due) {
        x.set(5, pace);
        edge.is("bar " + bar + " with PACE " + pace, x.wouldBe(bar, false), due);
        edge.is("the same with shift", x.wouldBe(bar, true), due);
    }

    private void freeIn() {
        edge.promise(30, "Returns the least PACE, from 1 on, with which the letter key of a bar, pressed now, would "
                + "fail neither for reason 4 "
                + "nor for reason 5 (whatever jams and locks there are); NONE if there is none up to 999.");
        edge.is("from 1 on", Rig.loaded(SLOW).freeIn(0), 1);
        // By the bounds of RISE and of an angle 216 is the greatest, so that there is one up to 999 always.
        TypebarMachine slowest = Rig.loaded(Texts.with(6, 99, 7, 99, 8, 99) + ";bar a 0;bar b 180");
        slowest.strike(0, false);
        edge.is("the slowest bar", slowest.freeIn(0), 216);
        edge.is("the bar behind it", slowest.freeIn(1), 99);
        slowest.rest(215);
        edge.is("1 before it is back", slowest.freeIn(0), 1);
        slowest.rest(1);
        edge.is("when it is back", slowest.freeIn(0), 1);
        for (int bar = 0; bar < 6; bar++) {
            for (int first = 0; first < 6; first++) {
                least(first, bar);
            }
        }
        TypebarMachine jam = Rig.plain();
        jam.set(5, 4);
        Rig.type(jam, "ab");
        edge.is("in a jam, the bar that is not back", jam.reason() * 100 + jam.freeIn(0), 506);
        jam.setMargin(false, 0);
        jam.set(4, 0);
        jam.setMargin(true, 1);
        edge.is("in a jam and locked", jam.carriage(2) * 100 + jam.freeIn(0), 106);

        edge.promise(30, NO_BAR);
        edge.range("bar", Check.INDEX, 0, 3, TypebarMachine::freeIn);
    }

    /** With the PACE that is told a bar does not fail, with any smaller one it does. */
    private void least(int first, int bar) {
        TypebarMachine x = Rig.loaded(SLOW);
        x.strike(first, false);
        int told = x.freeIn(bar);
        for (int pace = 1; pace <= told; pace++) {
            x.set(5, pace);
            int fault = x.wouldBe(bar, false);
            edge.is("bar " + bar + " behind " + first + " with PACE " + pace, fault == 0, pace == told);
        }
    }

    private void paceOf() {
        edge.promise(31, "Returns the least PACE, from 1 on, with which the second bar, struck one key behind the first one "
                + "(nothing else was struck), would neither jam nor, if it is the same bar, not be back; NONE if there "
                + "is none up to 999.");
        TypebarMachine x = Rig.loaded(SLOW);
        edge.is("from 1 on", Rig.plain().paceOf(0, 2), 1);
        edge.is("the same bar", x.paceOf(0, 0) + " " + x.paceOf(3, 3) + " " + x.paceOf(4, 4), "60 62 78");
        edge.is("a pair of one angle", x.paceOf(0, 1), 16);
        edge.is("NEAR 12 and 9 between the angles", x.paceOf(0, 2) * 100 + x.paceOf(2, 0), 707);
        edge.is("a rise between them", x.paceOf(0, 3) * 100 + x.paceOf(3, 0), 507);
        edge.is("the slow one last, then first", x.paceOf(0, 4) * 100 + x.paceOf(4, 0), 101);
        edge.is("two slow ones", x.paceOf(4, 5), 4);
        TypebarMachine slowest = Rig.loaded(Texts.with(6, 99, 7, 99, 8, 99) + ";bar a 0;bar b 0;bar c 180");
        edge.is("the slowest", slowest.paceOf(0, 0) + " " + slowest.paceOf(0, 1) + " " + slowest.paceOf(0, 2), "216 198 99");
        for (int first = 0; first < 6; first++) {
            for (int second = 0; second < 6; second++) {
                leastOf(first, second);
            }
        }
        TypebarMachine struck = Rig.loaded(SLOW);
        struck.set(5, 1);
        Rig.type(struck, "ab");
        edge.is("what was struck and a jam do not count", struck.reason() * 100 + struck.paceOf(0, 1), 516);

        edge.promise(31, NO_BAR);
        edge.range("first bar", Check.INDEX, 0, 3, (y, bar) -> y.paceOf(bar, 0));
        edge.range("second bar", Check.INDEX, 0, 3, (y, bar) -> y.paceOf(0, bar));
        edge.refuses("no bars", Check.INDEX, () -> Rig.loaded(Texts.with(0, 12)), y -> y.paceOf(0, 0));
    }

    private void leastOf(int first, int second) {
        int told = Rig.loaded(SLOW).paceOf(first, second);
        for (int pace = 1; pace <= told; pace++) {
            TypebarMachine x = Rig.loaded(SLOW);
            x.strike(first, false);
            x.set(5, pace);
            edge.is(second + " behind " + first + " with PACE " + pace, x.strike(second, false) == 0, pace == told);
        }
    }

    private void worstPair() {
        edge.promise(32, "Returns 100 times the first bar plus the second one of the pair for which paceOf() of the "
                + "first and the second one is "
                + "greatest (NONE counts as 1000), of several the one with the smallest first bar, then with the "
                + "smallest second one; "
                + "NONE without bars.");
        String head = Texts.with(6, 5);
        edge.is("no bars", Rig.loaded(head).worstPair(), -1);
        edge.is("one bar", Rig.loaded(head + ";bar a 90").worstPair(), 0);
        edge.is("one bar, with CLEAR 99", Rig.loaded(Texts.with(7, 99) + ";bar a 90").worstPair(), 0);
        edge.is("of several the smallest first bar", Rig.loaded(head + ";bar a 90;bar b 89").worstPair(), 0);
        edge.is("a greater one behind it", Rig.loaded(head + ";bar a 90;bar b 80").worstPair(), 101);
        edge.is("a greater one before it", Rig.loaded(head + ";bar a 80;bar b 90").worstPair(), 0);
        edge.is("of several the smallest second bar", Rig.loaded(Texts.with(7, 99)
                + ";bar a 90;bar b 0;bar c 0").worstPair(), 100);
        edge.is("the last bar with itself", Rig.loaded(head + ";bar a 90;bar b 90;bar c 0").worstPair(), 202);
        // a overtakes b where it is struck at 1, and jams with it until 4 more than the difference of the rises.
        edge.is("two bars", Rig.loaded(Texts.with(6, 1, 7, 99) + ";bar a 90;bar b 0").worstPair(), 100);
        StringBuilder all = new StringBuilder(head);
        for (char letter = 'a'; letter <= 'z'; letter++) {
            all.append(";bar ").append(letter).append(letter == 'z' ? " 0" : " 90");
        }
        edge.is("the last of 26 bars", Rig.loaded(all.toString()).worstPair(), 2525);
    }

    private void wouldTypeBytes() {
        edge.promise(33, "Tells what typing the first n bytes of the input buffer would do now.");
        TypebarMachine x = Rig.plain();
        Rig.feed(x, "a1 b?" + "^".repeat(15));
        String[] due = {"0 0 2 0 0 0", "1 0 3 0 0 5", "2 0 3 0 0 5", "3 0 4 0 0 5", "4 0 5 0 1 5", "4 3 5 0 1 5", "4 3 5 0 1 5"};
        for (int n = 0; n < due.length; n++) {
            edge.is(n + " bytes", would(x, n), due[n]);
        }
        edge.is("all bytes", would(x, 20), due[6]);

        edge.promise(33, "The buffer is not emptied.");
        edge.is("all bytes are there", x.buffered(), 20);
        TypebarMachine full = Rig.plain();
        Rig.feed(full, "9".repeat(500));
        edge.is("500 bytes", would(full, 500), "500 0 2 0 0 0");
        edge.is("they are there", full.buffered(), 500);
        edge.is("no byte", would(Rig.plain(), 0), "0 0 2 0 0 0");

        edge.promise(33, NO_BYTES);
        edge.range("n", Check.INDEX, 0, 20, (y, n) -> y.wouldType(n, 0));
        edge.refuses("one of none", Check.INDEX, Rig::plain, y -> y.wouldType(1, 0));
        edge.refuses("n and what", Check.INDEX, Used::machineAndKeys, y -> y.wouldType(21, 6));

        edge.promise(33, "Throws `IllegalArgumentException` if what is out of range");
        edge.range("what", Check.ARGUMENT, 0, 5, (y, what) -> y.wouldType(20, what));
    }

    private static String would(TypebarMachine x, int n) {
        StringBuilder told = new StringBuilder();
        for (int what = 0; what <= 5; what++) {
            told.append(what == 0 ? "" : " ").append(x.wouldType(n, what));
        }
        return told.toString();
    }

    private void wouldTypeWhat() {
        edge.promise(33, "0 keys and digits that are done, 1 the reason for which it stops (0 if it does not), 2 the "
                + "column then, 3 the line then");
        typing("//", "2 0 2 2 0 0");
        typing("///", "2 6 2 2 0 0");
        typing("cc", "1 4 3 0 0 5");
        typing("      a", "7 0 9 0 1 5");
        typing("      aa", "7 2 9 0 1 5");
        typing("?", "0 3 2 0 0 0");
        TypebarMachine jam = Rig.plain();
        jam.set(5, 4);
        Rig.feed(jam, "ab!b");
        edge.is("a jam", would(jam, 2), "1 5 3 0 0 5");
        jam.type(2);
        Rig.feed(jam, "!b");
        edge.is("in a jam", would(jam, 2), "2 0 4 0 0 5");
        jam.type(0);
        Rig.feed(jam, "7a");
        edge.is("in a jam, a letter", would(jam, 2), "1 1 3 0 0 0");

        edge.promise(33, "4 how often the bell rings");
        typing("  ", "2 0 4 0 0 0");
        typing("   ", "3 0 5 0 1 0");
        typing("    ", "4 0 6 0 1 0");
        typing("   < < a", "8 0 6 0 3 5");
        TypebarMachine rang = Rig.plain();
        Rig.type(rang, "   ");
        Rig.feed(rang, "/   ");
        edge.is("without those before", would(rang, 4), "4 0 5 1 1 0");

        edge.promise(33, "5 the darkness of the letter that is printed last, as it comes from the ribbon (0 if none is)");
        typing("", "0 0 2 0 0 0");
        typing(" ", "1 0 3 0 0 0");
        typing("a<a<a", "5 0 3 0 0 5");
        TypebarMachine worn = Rig.loaded("machine 12 3 2 8 3;speed 20 5 4 10;ribbon 5 4 1;bar a 90");
        Rig.type(worn, "aaaaa");
        Rig.feed(worn, "<a a?");
        edge.is("as it comes from the ribbon, not as it stands", would(worn, 2), "2 0 7 0 0 3");
        Rig.type(worn, "");
        Rig.feed(worn, " ");
        edge.is("what was printed before does not count", would(worn, 1), "1 0 8 0 0 0");
        edge.is("nor does what would have been", would(worn, 0), "0 0 7 0 0 0");
        TypebarMachine dry = Rig.loaded("machine 12 3 2 8 3;speed 20 5 4 10;ribbon 5 1 1;bar a 90");
        Rig.feed(dry, "aaaaaa");
        edge.is("the last ink", would(dry, 5), "5 0 7 0 1 1");
        edge.is("no ink", would(dry, 6), "6 0 8 0 1 0");
    }

    private void typing(String keys, String due) {
        TypebarMachine x = Rig.plain();
        edge.is("typing " + keys, would(x, Rig.feed(x, keys)), due);
    }

    private void paceFor() {
        edge.promise(34, "Returns the least PACE, from 1 on, with which typing the first n bytes of the input buffer "
                + "would stop neither for "
                + "reason 4 nor for reason 5 (for others it may); NONE if there is none up to 300.");
        pace("", 1);
        pace("a", 1);
        pace("aa", 60);
        pace("ab", 16);
        pace("a5aa", 60);
        pace("a6a", 1);
        pace("a5a", 10);
        pace("a?aa", 1);
        pace("aa?", 60);
        pace("      aaa", 1);
        pace("     aaa", 60);
        pace("ee", 78);
        // By the bounds of RISE and of an angle 216 is the greatest, so that there is one up to 300 always.
        TypebarMachine slowest = Rig.loaded(Texts.with(6, 99, 7, 99, 8, 99) + ";bar a 0;bar b 0");
        edge.is("the slowest bar", slowest.paceFor(Rig.feed(slowest, "aa")), 216);
        slowest.type(0);
        edge.is("the bar beside it", slowest.paceFor(Rig.feed(slowest, "ab")), 198);
        for (String keys : new String[] {"aa", "ab", "ae", "ea", "aba", "abc", "a b", "efe", "ad1c", "abcdef"}) {
            leastFor(keys);
        }

        edge.promise(34, "The buffer is not emptied.");
        TypebarMachine x = Used.machineAndKeys();
        x.paceFor(20);
        edge.is("20 bytes", x.buffered(), 20);

        edge.promise(34, NO_BYTES);
        edge.range("n", Check.INDEX, 0, 20, TypebarMachine::paceFor);
        edge.refuses("one of none", Check.INDEX, Rig::plain, y -> y.paceFor(1));
    }

    private void pace(String keys, int due) {
        TypebarMachine x = Rig.loaded(SLOW);
        edge.is("PACE for " + keys, x.paceFor(Rig.feed(x, keys)), due);
    }

    private void leastFor(String keys) {
        TypebarMachine x = Rig.loaded(SLOW);
        int n = Rig.feed(x, keys);
        int told = x.paceFor(n);
        for (int pace = 1; pace <= told; pace++) {
            x.set(5, pace);
            int fault = x.wouldType(n, 1);
            edge.is("typing " + keys + " with PACE " + pace, fault != 4 && fault != 5, pace == told);
        }
    }

    private void keysTo() {
        edge.promise(35, "Returns the fewest keys, of space, tab and back, that bring the carriage to a column of its "
                + "line, 0 if it is there; "
                + "NONE if none do (a jam does not matter, the lock does).");
        TypebarMachine x = Rig.plain();
        edge.is("at LEFT", keys(x), "-1 -1 0 1 2 1 2 3 4 3 2 -1 -1");
        Rig.type(x, "      ");
        edge.is("at RIGHT", keys(x), "-1 -1 6 5 4 3 2 1 0 1 1 -1 -1");
        x.press(0);
        edge.is("locked behind RIGHT", keys(x), "-1 -1 7 6 5 4 3 2 1 0 1 -1 -1");
        x.press(4);
        edge.is("released", keys(x), "9 8 7 6 5 4 3 2 1 0 1 2 3");
        Rig.type(x, "   ");
        edge.is("at WIDTH", keys(x), "12 11 10 9 8 7 6 5 4 3 2 1 0");
        TypebarMachine jam = Rig.plain();
        jam.set(5, 1);
        Rig.type(jam, "ab");
        edge.is("in a jam", jam.reason() + ": " + keys(jam), "5: -1 -1 1 0 1 1 2 3 4 3 2 -1 -1");
        TypebarMachine last = Rig.loaded("machine 12 3 0 11 0" + Texts.TAIL);
        edge.is("from the first to the last column and behind it", last.keysTo(0) + " " + last.keysTo(11) + " "
                + last.keysTo(12), "0 1 2");
        TypebarMachine wide = Rig.loaded("machine 40 3 0 39 0" + Texts.TAIL);
        Rig.type(wide, "> ");
        edge.is("the longest way", wide.keysTo(0), 40);
        wide.press(3);
        edge.is("from the first column behind the last one of 40", wide.keysTo(40), 2);
        TypebarMachine before = Rig.loaded("machine 12 3 2 8 0" + Texts.TAIL);
        Rig.type(before, "^<");
        edge.is("before LEFT, released", keys(before), "1 0 1 2 3 4 3 2 1 2 3 4 5");

        edge.promise(35, "`column`: the column, 0 to WIDTH");
        edge.range("column", Check.INDEX, 0, 12, TypebarMachine::keysTo);
        edge.promise(35, "Throws `IndexOutOfBoundsException` if there is no such column");
        edge.answers("column 40 of 40", () -> Rig.loaded(Texts.with(0, 40)), y -> y.keysTo(40));
        edge.refuses("column 41 of 40", Check.INDEX, () -> Rig.loaded(Texts.with(0, 40)), y -> y.keysTo(41));
        edge.refuses("column 11 of 10", Check.INDEX, () -> Rig.loaded(Texts.with(0, 10)), y -> y.keysTo(11));
    }

    private static String keys(TypebarMachine x) {
        StringBuilder told = new StringBuilder();
        for (int column = 0; column <= 12; column++) {
            told.append(column == 0 ? "" : " ").append(x.keysTo(column));
        }
        return told.toString();
    }

    private void printsLeft() {
        edge.promise(36, "Returns how many more letters could be printed with a darkness above 0, one behind the other, "
                + "until one is printed with "
                + "the darkness 0; NONE if it is never so.");
        prints(5, 1, 0, -1);
        prints(5, 1, 1, 5);
        prints(5, 1, 3, 5);
        prints(5, 2, 1, 10);
        prints(5, 2, 2, 5);
        prints(5, 3, 3, 5);
        prints(5, 4, 3, 10);
        prints(60, 9, 0, -1);
        prints(60, 9, 1, 540);
        prints(60, 9, 2, 300);
        prints(60, 9, 3, 180);
        TypebarMachine dry = Rig.loaded("machine 12 3 2 8 3;speed 20 5 4 10;ribbon 5 1 1;bar a 90");
        Rig.type(dry, "aaaa");
        edge.is("one more", dry.printsLeft(), 1);
        dry.set(11, 0);
        edge.is("one more, and again at the turn, with WEAR 0", dry.printsLeft(), 2);
        dry.set(11, 1);
        dry.strike(0, false);
        edge.is("no more", dry.printsLeft(), 0);
        dry.set(11, 0);
        edge.is("no more with WEAR 0", dry.printsLeft(), 0);
        TypebarMachine far = Rig.loaded("machine 40 3 0 39 3;speed 20 5 4 10;ribbon 60 1 1;bar a 90");
        Rig.type(far, "a");
        far.set(11, 0);
        edge.is("to the end and back to the first place, with WEAR 0", far.printsLeft(), 118);
        edge.is("without bars", Rig.loaded(Texts.with(9, 5)).printsLeft(), 25);
    }

    private void prints(int length, int ink, int wear, int due) {
        TypebarMachine x = Rig.loaded(Texts.with(9, length, 10, ink, 11, wear));
        edge.is("LENGTH " + length + ", INK " + ink + ", WEAR " + wear, x.printsLeft(), due);
    }
}
