/** Promises 29 to 36: what would be. Nothing is changed by asking. */
public final class WouldTest {

    private static final Check CHECK = new Check("WouldTest");

    public static void main(String[] args) {
        wouldBe();
        freeIn();
        paceOf();
        worstPair();
        wouldType();
        wouldTypeStops();
        paceFor();
        keysTo();
        printsLeft();
        nothingIsChanged();
        CHECK.end();
    }

    private static void wouldBe() {
        TypebarMachine x = Rig.plain();
        CHECK.is("29: at first", x.wouldBe(0, false), 0);
        x.strike(2, false);
        CHECK.is("29: not back", x.wouldBe(2, false) * 10 + x.wouldBe(2, true), 44);
        x.set(5, 3);
        CHECK.is("29: a jam", x.wouldBe(3, false) * 10 + x.wouldBe(3, true), 55);
        CHECK.is("29: no jam", x.wouldBe(0, true), 0);
        x.strike(3, true);
        CHECK.is("29: bars are jammed", x.wouldBe(0, false) * 10 + x.wouldBe(2, true), 11);
        x.press(5);
        Rig.type(x, ">>");
        CHECK.is("29: locked", x.wouldBe(0, false), 2);
        x.press(4);
        CHECK.is("29: released", x.wouldBe(0, false), 0);
        for (int no : new int[] {-1, 4, Integer.MIN_VALUE, Integer.MAX_VALUE}) {
            CHECK.refuses("29: no bar " + no, Check.INDEX, () -> x.wouldBe(no, false));
        }
    }

    private static void freeIn() {
        TypebarMachine x = Rig.plain();
        CHECK.is("30: at first", x.freeIn(0), 1);
        x.strike(2, false);
        CHECK.is("30: the same bar", x.freeIn(2), 28);
        CHECK.is("30: a bar that would jam", x.freeIn(3), 4);
        CHECK.is("30: a bar that overtakes", x.freeIn(0), 1);
        x.rest(5);
        CHECK.is("30: a bar that would no longer", x.freeIn(0), 8);
        CHECK.is("30: the same bar, later", x.freeIn(2), 23);
        x.set(7, 99);
        CHECK.is("30: until the latest bar is back", x.freeIn(0), 23);
        x.rest(30);
        Rig.type(x, "d");
        x.set(5, 1);
        x.strike(0, false);
        CHECK.is("30: bars that are jammed", x.reason(), 5);
        CHECK.is("30: a jam does not matter", x.freeIn(1), 27);
        Rig.type(x, "!^>>  !");
        CHECK.is("30: the carriage is locked", x.carriage(2), 1);
        CHECK.is("30: the lock does not matter", x.freeIn(1), 1);
        TypebarMachine slow = Rig.loaded("machine 12 3 2 8 3;speed 1 99 99 99;ribbon 6 5 1;bar a 0;bar b 0");
        slow.strike(0, false);
        CHECK.is("30: the longest", slow.freeIn(0) * 1000 + slow.freeIn(1), 216198);
        for (int no : new int[] {-1, 4, Integer.MIN_VALUE, Integer.MAX_VALUE}) {
            CHECK.refuses("30: no bar " + no, Check.INDEX, () -> x.freeIn(no));
        }
    }

    private static void paceOf() {
        TypebarMachine x = Rig.plain();
        paces(x, "10 10 1 1 10 10 1 1 1 1 28 4 1 1 4 28");
        x.set(7, 9);
        paces(x, "10 10 1 1 10 10 1 1 18 18 28 9 18 18 9 28");
        x.set(7, 20);
        paces(x, "10 10 10 10 10 10 10 10 28 28 28 20 28 28 20 28");
        x.set(6, 6);
        paces(x, "12 12 11 11 12 12 11 11 29 29 30 20 29 29 20 30");
        x.set(5, 1);
        Rig.type(x, "ab");
        CHECK.is("31: a jam", x.reason(), 5);
        paces(x, "12 12 11 11 12 12 11 11 29 29 30 20 29 29 20 30");
        for (int no : new int[] {-1, 4, Integer.MIN_VALUE, Integer.MAX_VALUE}) {
            CHECK.refuses("31: no first bar " + no, Check.INDEX, () -> x.paceOf(no, 0));
            CHECK.refuses("31: no second bar " + no, Check.INDEX, () -> x.paceOf(0, no));
        }
    }

    private static void paces(TypebarMachine x, String due) {
        StringBuilder told = new StringBuilder();
        for (int pair = 0; pair < 16; pair++) {
            told.append(pair == 0 ? "" : " ").append(x.paceOf(pair / 4, pair % 4));
        }
        CHECK.is("31: paces with CLEAR " + x.setting(7) + " and RISE " + x.setting(6), told.toString(), due);
    }

    private static void worstPair() {
        String head = "machine 12 3 2 8 3;speed 20 5 4 10;ribbon 6 5 1";
        CHECK.is("32: no bars", Rig.loaded(head).worstPair(), -1);
        CHECK.is("32: one bar", Rig.loaded(head + ";bar a 90").worstPair(), 0);
        CHECK.is("32: a bar with itself", Rig.loaded(head + ";bar a 90;bar b 80").worstPair(), 101);
        CHECK.is("32: of several the smallest first bar", Rig.plain().worstPair(), 202);
        TypebarMachine x = Rig.plain();
        x.set(7, 20);
        CHECK.is("32: of several the smallest second bar", x.worstPair(), 200);
        x.set(6, 6);
        CHECK.is("32: the greatest pace alone", x.worstPair(), 202);
        StringBuilder many = new StringBuilder("machine 12 3 2 8 3;speed 20 5 99 10;ribbon 6 5 1");
        for (char letter = 'a'; letter <= 'z'; letter++) {
            many.append(";bar ").append(letter).append(letter == 'z' ? " 1" : " 90");
        }
        CHECK.is("32: the last bar", Rig.loaded(many.toString()).worstPair(), 2500);
    }

    private static void wouldType() {
        TypebarMachine x = Rig.plain();
        Rig.type(x, "a");
        Rig.feed(x, "b1>< c!/A ");
        would(x, 0, "0 0 3 0 0 0");
        would(x, 1, "1 0 4 0 0 5");
        would(x, 2, "2 0 4 0 0 5");
        would(x, 3, "3 0 5 0 0 5");
        would(x, 5, "5 0 5 0 1 5");
        would(x, 6, "6 0 6 0 1 5");
        would(x, 8, "8 0 2 1 1 5");
        would(x, 10, "10 0 4 1 1 5");
        x.type(10);
        Rig.feed(x, " aaa");
        would(x, 1, "1 0 5 1 1 0");
        would(x, 4, "4 0 8 1 1 4");
        for (int no : new int[] {-1, 21, Integer.MIN_VALUE, Integer.MAX_VALUE}) {
            CHECK.refuses("33: n " + no, Check.INDEX, () -> x.wouldType(no, 0));
            CHECK.refuses("33: n " + no + " ahead of what", Check.INDEX, () -> x.wouldType(no, 6));
        }
        for (int no : new int[] {-1, 6, Integer.MIN_VALUE, Integer.MAX_VALUE}) {
            CHECK.refuses("33: what " + no, Check.ARGUMENT, () -> x.wouldType(0, no));
        }
    }

    private static void wouldTypeStops() {
        TypebarMachine x = Rig.plain();
        Rig.feed(x, "ab?");
        would(x, 3, "2 3 4 0 0 5");
        x.type(0);
        Rig.feed(x, "cc");
        would(x, 2, "1 4 3 0 0 5");
        x.type(0);
        Rig.feed(x, ">>^< a");
        would(x, 2, "2 0 10 0 0 0");
        would(x, 6, "6 0 11 0 0 5");
        x.type(0);
        Rig.feed(x, ">>a");
        would(x, 3, "2 2 10 0 0 0");
        x.type(0);
        Rig.feed(x, "a///");
        would(x, 4, "3 6 2 2 0 5");
        x.set(5, 1);
        x.type(0);
        Rig.feed(x, "ab");
        would(x, 2, "1 5 3 0 0 5");
        x.type(2);
        Rig.feed(x, "1 ");
        would(x, 2, "1 1 3 0 0 0");
        TypebarMachine dry = Rig.plain();
        dry.set(11, 3);
        Rig.type(dry, "aaaaaa/aaaaaa/");
        Rig.feed(dry, "a");
        would(dry, 1, "1 0 3 2 0 0");
    }

    private static void would(TypebarMachine x, int n, String due) {
        StringBuilder told = new StringBuilder();
        int buffered = x.buffered();
        for (int what = 0; what <= 5; what++) {
            told.append(what == 0 ? "" : " ").append(x.wouldType(n, what));
        }
        CHECK.is("33: typing " + n + " bytes", told.toString(), due);
        CHECK.is("33: the buffer", x.buffered(), buffered);
    }

    private static void paceFor() {
        pace("", 1);
        pace("a", 1);
        pace("aa", 10);
        pace("ab", 10);
        pace("cc", 28);
        pace("cd", 4);
        pace("ca", 1);
        pace("ac", 1);
        pace("a1b", 1);
        pace("a b", 5);
        pace("a<>b", 4);
        pace("a?bab", 1);
        pace("aa?b", 10);
        pace("cacc", 28);
        pace("cac", 14);
        pace("     aaaa", 10);
        pace("      aaaa", 1);
        pace("////aa", 1);
        TypebarMachine x = Rig.plain();
        x.strike(2, false);
        CHECK.is("34: from now on", x.paceFor(Rig.feed(x, "c")), 28);
        x.type(0);
        x.set(5, 3);
        x.strike(3, false);
        CHECK.is("34: in a jam it stops for reason 1", x.paceFor(Rig.feed(x, "cc")), 1);
        CHECK.is("34: the buffer is not emptied", x.buffered(), 20);
        CHECK.is("34: PACE stays", x.setting(5), 3);
        x.type(0);
        CHECK.is("34: behind a free", x.paceFor(Rig.feed(x, "!cc")), 28);
        for (int no : new int[] {-1, 21, Integer.MIN_VALUE, Integer.MAX_VALUE}) {
            CHECK.refuses("34: n " + no, Check.INDEX, () -> x.paceFor(no));
        }
        TypebarMachine slow = Rig.loaded("machine 12 3 2 8 3;speed 1 99 99 99;ribbon 6 5 1;bar a 0;bar b 0");
        CHECK.is("34: the slowest", slow.paceFor(Rig.feed(slow, "aa")), 216);
    }

    private static void pace(String text, int due) {
        TypebarMachine x = Rig.plain();
        CHECK.is("34: PACE for " + text, x.paceFor(Rig.feed(x, text)), due);
    }

    private static void keysTo() {
        TypebarMachine x = Rig.plain();
        keys(x, "-1 -1 0 1 2 1 2 3 4 3 2 -1 -1");
        Rig.type(x, ">>");
        keys(x, "-1 -1 8 7 6 5 4 3 2 1 0 -1 -1");
        x.press(4);
        keys(x, "10 9 8 7 6 5 4 3 2 1 0 1 2");
        Rig.type(x, "  ");
        keys(x, "12 11 10 9 8 7 6 5 4 3 2 1 0");
        Rig.type(x, "/^<");
        keys(x, "1 0 1 2 2 1 2 3 4 3 2 3 4");
        Rig.type(x, "/");
        x.setStop(10, false);
        keys(x, "-1 -1 0 1 2 1 2 3 2 3 -1 -1 -1");
        x.set(5, 1);
        Rig.type(x, "ab");
        CHECK.is("35: a jam", x.reason(), 5);
        keys(x, "-1 -1 1 0 1 1 2 3 2 3 -1 -1 -1");
        for (int no : new int[] {-1, 13, Integer.MIN_VALUE, Integer.MAX_VALUE}) {
            CHECK.refuses("35: no column " + no, Check.INDEX, () -> x.keysTo(no));
        }
        TypebarMachine wide = Rig.loaded("machine 40 1 0 39 0;speed 1 1 0 0;ribbon 5 1 0;tab 39");
        wide.press(1);
        CHECK.is("35: the longest way", wide.keysTo(0), 39);
        wide.press(2);
        CHECK.is("35: back and forth", wide.keysTo(39), 1);
        wide.press(0);
        wide.press(0);
        CHECK.is("35: from WIDTH", wide.keysTo(0), 40);
        TypebarMachine none = Rig.loaded("machine 40 1 0 39 0;speed 1 1 0 0;ribbon 5 1 0");
        CHECK.is("35: by tab to RIGHT and on", none.keysTo(40), 2);
        CHECK.is("35: from the column 0", none.keysTo(1), 1);
    }

    private static void keys(TypebarMachine x, String due) {
        StringBuilder told = new StringBuilder();
        for (int column = 0; column <= 12; column++) {
            told.append(column == 0 ? "" : " ").append(x.keysTo(column));
        }
        CHECK.is("35: keys from " + Rig.carriage(x), told.toString(), due);
    }

    private static void printsLeft() {
        TypebarMachine x = Rig.plain();
        CHECK.is("36: a new ribbon", x.printsLeft(), 30);
        Rig.type(x, "aaaa");
        CHECK.is("36: four letters later", x.printsLeft(), 26);
        x.set(11, 3);
        CHECK.is("36: with WEAR 3", x.printsLeft(), 12);
        x.set(11, 0);
        CHECK.is("36: with WEAR 0", x.printsLeft(), -1);
        TypebarMachine dry = Rig.loaded("machine 12 3 2 8 3;speed 20 5 4 10;ribbon 5 3 3;bar a 90");
        Rig.type(dry, "aa");
        dry.set(11, 0);
        CHECK.is("36: with WEAR 0 until a dry place", dry.printsLeft(), 6);
        dry.set(11, 3);
        CHECK.is("36: until the turn", dry.printsLeft(), 3);
        Rig.type(dry, "aaa");
        CHECK.is("36: a dry place at the head", dry.printsLeft(), 0);
        dry.set(11, 0);
        CHECK.is("36: a dry place at the head, with WEAR 0", dry.printsLeft(), 0);
        CHECK.is("36: without bars", Rig.loaded("machine 12 3 2 8 3;speed 20 5 4 10;ribbon 60 9 1").printsLeft(), 540);
        CHECK.is("36: of the greatest ribbon, WEAR 2", Rig.loaded("machine 12 3 2 8 3;speed 1 1 1 1;ribbon 60 9 2").printsLeft(), 300);
    }

    private static void nothingIsChanged() {
        TypebarMachine x = Rig.plain();
        Rig.type(x, "ab cd/Ab");
        x.save(0);
        Rig.line(x, 0);
        int n = Rig.feed(x, "abc/>!^bbaa9d");
        String before = Rig.all(x);
        for (int i = 0; i < 4; i++) {
            x.wouldBe(i, true);
            x.freeIn(i);
            x.paceOf(i, 3 - i);
            x.wouldType(n - i, i);
            x.paceFor(n - i);
            x.keysTo(3 * i);
        }
        x.worstPair();
        x.printsLeft();
        CHECK.is("nothing is changed", Rig.all(x), before);
        CHECK.is("the buffer stays", x.buffered(), 20);
        CHECK.is("there is no change to undo but the first", x.undoable(), 1);
        CHECK.is("the text stays", Rig.written(x, 7), "  ab cd");
        CHECK.is("the slot stays", x.restore(0), 160);
    }
}
