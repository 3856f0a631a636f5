/** Promises 1 to 6, and the text format of a machine. */
public final class InputTest {

    private static final String HEAD = "machine 12 3 2 8 3;speed 20 5 4 10;ribbon 6 5 1";
    private static final Check CHECK = new Check("InputTest");

    public static void main(String[] args) {
        newObject();
        append();
        load();
        refusedLoad();
        goodTexts();
        headErrors();
        bounds();
        lineErrors();
        CHECK.end();
    }

    /** Promise 1. Arguments that are wrong, too, show that the missing machine is told first. */
    private static void newObject() {
        TypebarMachine x = new TypebarMachine();
        CHECK.is("NONE", TypebarMachine.NONE, -1);
        CHECK.is("1: buffered", x.buffered(), 0);
        CHECK.is("1: undoable", x.undoable(), 0);
        CHECK.is("1: parseError", x.parseError(), 0);
        CHECK.is("1: errorPosition", x.errorPosition(), -1);
        Check.Call[] calls = {
            () -> x.count(-1), () -> x.setting(-1), () -> x.carriage(-1), () -> x.bar(-1, -1), () -> x.barOf('a'),
            () -> x.latest(), () -> x.ribbon(-1), () -> x.head(-1), () -> x.sign(-1, -1), () -> x.darkness(-1, -1),
            () -> x.isStop(-1), () -> x.reason(), () -> x.reasonAt(), () -> x.lineLength(-1), () -> x.words(-1),
            () -> x.letters('a'), () -> x.palest(), () -> x.meanDarkness(), () -> x.inkShare(), () -> x.slowest(),
            () -> x.nextStop(-1), () -> x.bellIn(), () -> x.wouldBe(-1, false), () -> x.freeIn(-1),
            () -> x.paceOf(-1, -1), () -> x.worstPair(), () -> x.wouldType(-1, -1), () -> x.paceFor(-1),
            () -> x.keysTo(-1), () -> x.printsLeft(), () -> x.writeLine(-1), () -> x.writeShades(-1),
            () -> x.writeRuler(), () -> x.strike(-1, false), () -> x.press(-1), () -> x.type(-1),
            () -> x.setStop(-1, true), () -> x.setMargin(true, -1), () -> x.set(-1, -1), () -> x.rest(-1),
            () -> x.newRibbon(), () -> x.newPage(), () -> x.undo(), () -> x.save(-1), () -> x.save(0),
            () -> x.restore(0), () -> x.restore(1)
        };
        for (int i = 0; i < calls.length; i++) {
            CHECK.refuses("1: call " + i + " without a machine", Check.STATE, calls[i]);
        }
        CHECK.refuses("53: restore of no slot without a machine", Check.INDEX, () -> x.restore(2));
        CHECK.refuses("40: textByte before the first text", Check.INDEX, () -> x.textByte(0));
        CHECK.refuses("3: load of 1 byte of none", Check.INDEX, () -> x.load(1));
        CHECK.refuses("3: load of 0 bytes", Check.ARGUMENT, () -> x.load(0));
    }

    /** Promises 2 and 6. */
    private static void append() {
        TypebarMachine x = new TypebarMachine();
        CHECK.is("2: the first append", x.append(0x6d616368, 0x696e6520, 0x31322033, 0x20322038, 0x20333b20), 20);
        CHECK.is("2: the second append", x.append(0x73706565, 0x64203230, 0x20352034, 0x2031303b, 0x20202020), 40);
        CHECK.is("2: the third append", x.append(0x72696262, 0x6f6e2036, 0x20352031, 0xffffffff, 0x80ff0080), 60);
        CHECK.is("6: buffered", x.buffered(), 60);
        CHECK.is("2: the bytes stand in their order", x.load(52), 0);
        CHECK.is("6: load empties the buffer, also behind its bytes", x.buffered(), 0);

        for (int times = 1; times <= 25; times++) {
            CHECK.is("2: append " + times, x.append(0x30303030, 0x30303030, 0x30303030, 0x30303030, 0x30303078), 20 * times);
        }
        CHECK.is("2: append beyond 500 bytes", x.append(0, 0, 0, 0, 0), -1);
        CHECK.is("2: append beyond 500 bytes, again", x.append(0, 0, 0, 0, 0), -1);
        CHECK.is("6: buffered when it is full", x.buffered(), 500);
        CHECK.is("2: the full buffer is as it was", x.wouldType(500, 0), 19);
        CHECK.is("6: type empties a full buffer", x.type(0) + x.buffered(), 0);
        CHECK.is("2: bytes above 127 are no keys", Rig.type(x, "\u00e1"), 0);
        CHECK.is("2: and fail as such", x.reason(), 3);
        CHECK.is("6: type empties the buffer", x.buffered(), 0);

        TypebarMachine full = new TypebarMachine();
        String text = " ".repeat(500 - HEAD.length()) + HEAD;
        Rig.feed(full, text);
        full.append(0x78787878, 0, 0, 0, 0);
        CHECK.is("3: a text of 500 bytes", full.load(500), 0);
        CHECK.is("3: its last number", full.setting(11), 1);
    }

    /** Promise 3: what a load that succeeds leaves. */
    private static void load() {
        TypebarMachine x = Rig.plain();
        CHECK.is("3: settings", Rig.settings(x), "12 3 2 8 3 20 5 4 10 6 5 1 1");
        CHECK.is("3: counts", Rig.counts(x), "4 2 0 0 0 0 0 0 0 0 0 0 0 0");
        CHECK.is("3: carriage", Rig.carriage(x), "0 2 0 0");
        CHECK.is("3: ribbon", Rig.ribbon(x), "555555 0>");
        CHECK.is("3: bar 0", Rig.bar(x, 0), "a 90 5 0 0 0");
        CHECK.is("3: bar 3", Rig.bar(x, 3), "d 180 14 0 0 0");
        String fresh = Rig.all(x);

        x.wouldType(Rig.feed(x, "abababaabccc"), 0);
        x.type(0);
        CHECK.is("3: a trial ahead of the load", Rig.load(x, Rig.PLAIN), 4);
        CHECK.is("3: it leaves nothing in the machine", Rig.all(x), fresh);
        Rig.type(x, "ab^<<</a!>x");
        x.set(12, 2);
        x.set(5, 1);
        Rig.type(x, "ab");
        CHECK.is("a jam ahead of the load", x.reason(), 5);
        x.setStop(0, true);
        x.setMargin(false, 0);
        x.save(0);
        x.save(1);
        CHECK.is("a text ahead of the load", Rig.line(x, 1), "  a  a");
        CHECK.is("3: load gives the number of bars", Rig.load(x, Rig.PLAIN), 4);
        CHECK.is("3: all is as on a new object", Rig.all(x), fresh);
        CHECK.is("3: nothing can be undone", x.undoable(), 0);
        CHECK.refuses("3: undo behind load", Check.STATE, () -> x.undo());
        CHECK.refuses("3: slot 0 behind load", Check.STATE, () -> x.restore(0));
        CHECK.refuses("3: slot 1 behind load", Check.STATE, () -> x.restore(1));
        CHECK.is("the text stays behind load", Rig.written(x, 6), "  a  a");
        CHECK.refuses("the text is no longer than it was", Check.INDEX, () -> x.textByte(6));
        CHECK.is("4: parseError behind a good load", x.parseError(), 0);
        CHECK.is("5: errorPosition behind a good load", x.errorPosition(), -1);
    }

    /** Promises 3 to 5: what a load that fails leaves. */
    private static void refusedLoad() {
        TypebarMachine x = Rig.plain();
        Rig.type(x, "ab");
        x.save(1);
        String before = Rig.all(x);
        int n = Rig.feed(x, HEAD + ";bar a 181;");
        CHECK.refuses("3: a text with an error", Check.ARGUMENT, () -> x.load(n));
        CHECK.is("3: the buffer is emptied", x.buffered(), 0);
        CHECK.is("4: parseError", x.parseError(), 2);
        CHECK.is("5: errorPosition", x.errorPosition(), HEAD.length() + 7);
        CHECK.is("3: the previous machine stays", Rig.all(x), before);
        CHECK.is("3: its changes stay", x.undoable(), 1);
        CHECK.is("3: its slots stay", x.restore(1), 40);

        Rig.feed(x, HEAD);
        CHECK.refuses("3: n below 0", Check.INDEX, () -> x.load(-1));
        CHECK.refuses("3: n above the bytes", Check.INDEX, () -> x.load(x.buffered() + 1));
        CHECK.refuses("3: the least n", Check.INDEX, () -> x.load(Integer.MIN_VALUE));
        CHECK.refuses("3: the greatest n", Check.INDEX, () -> x.load(Integer.MAX_VALUE));
        CHECK.is("3: the buffer stays", x.buffered(), 60);
        CHECK.is("4: parseError stays", x.parseError(), 2);
        CHECK.is("5: errorPosition stays", x.errorPosition(), HEAD.length() + 7);
        CHECK.is("3: it can be loaded then", x.load(HEAD.length()), 0);
        CHECK.is("4: parseError is 0 again", x.parseError(), 0);
        CHECK.is("5: errorPosition is NONE again", x.errorPosition(), -1);
    }

    private static void goodTexts() {
        good(HEAD, 0, "12 3 2 8 3 20 5 4 10 6 5 1 1");
        good("  machine12 3 2 8 3;speed20 5 4 10;ribbon6 5 1;bar a90;tab5;bar b0  ", 2, "12 3 2 8 3 20 5 4 10 6 5 1 1");
        good("machine 012 003 002 008 003;speed 020 005 004 010;ribbon 006 005 001;bar z 000;tab 000;tab 011", 1,
                "12 3 2 8 3 20 5 4 10 6 5 1 1");
        good("machine 10 1 0 1 0;speed 1 1 0 0;ribbon 5 1 0", 0, "10 1 0 1 0 1 1 0 0 5 1 0 1");
        good("machine 40 12 38 39 1;speed 999 99 99 99;ribbon 60 9 3;bar a 180;tab 39", 1,
                "40 12 38 39 1 999 99 99 99 60 9 3 1");
        good("machine 40 12 0 39 39;speed 999 99 99 99;ribbon 60 9 3;tab 0", 0, "40 12 0 39 39 999 99 99 99 60 9 3 1");
        StringBuilder all = new StringBuilder(HEAD);
        for (char letter = 'z'; letter >= 'a'; letter--) {
            all.append(";bar ").append(letter).append(' ').append(letter - 'a');
        }
        good(all.toString(), 26, "12 3 2 8 3 20 5 4 10 6 5 1 1");
        TypebarMachine x = Rig.loaded(all.toString());
        CHECK.is("bars are numbered as they come: the first", Rig.bar(x, 0).substring(0, 4), "z 25");
        CHECK.is("bars are numbered as they come: the last", Rig.bar(x, 25).substring(0, 3), "a 0");
        TypebarMachine cut = new TypebarMachine();
        Rig.feed(cut, HEAD + "3;bar");
        CHECK.is("only n bytes are parsed", cut.load(HEAD.length()), 0);
        CHECK.is("a number ends behind n bytes", cut.setting(11), 1);
        cutAtEnd(";bar a", "b 5");
        cutAtEnd(";", "   ");
        cutAtEnd("; ", "  tab 5");
        cutAtEnd(";bar", " a 5");
        cutAtEnd(";bar a ", "5");
        cutAtEnd(";tab", "5");
    }

    /** What stands behind the n bytes changes neither the last token nor the position of the error at the end. */
    private static void cutAtEnd(String end, String behind) {
        TypebarMachine x = new TypebarMachine();
        int n = HEAD.length() + end.length();
        Rig.feed(x, HEAD + end + behind);
        CHECK.refuses("3: a text that is cut behind " + end, Check.ARGUMENT, () -> x.load(n));
        CHECK.is("4, 5: a text that is cut behind " + end, x.parseError() + " " + x.errorPosition(), "1 " + n);
    }

    private static void good(String text, int bars, String settings) {
        TypebarMachine x = new TypebarMachine();
        CHECK.is("bars of " + text, Rig.load(x, text), bars);
        CHECK.is("settings of " + text, Rig.settings(x), settings);
        CHECK.is("parseError of " + text, x.parseError(), 0);
        CHECK.is("errorPosition of " + text, x.errorPosition(), -1);
    }

    private static void headErrors() {
        bad(1, "@");
        bad(1, "   @");
        bad(1, "@Machine 12");
        bad(1, "@machin 12");
        bad(1, "@nachine 12");
        bad(1, "@maghine 12");
        bad(1, "@machinf 12");
        bad(1, "@machines 12");
        bad(1, "@12");
        bad(1, "@;");
        bad(1, "@speed");
        bad(1, "@\tmachine");
        bad(1, "machine@\u00e4");
        bad(1, "machine@");
        bad(1, "machine @");
        bad(1, "machine @x");
        bad(1, "machine @0012 3 2 8 3");
        bad(1, "machine 12 3 2 8 @;");
        bad(1, "machine 12 3 2 8 3 @4");
        bad(1, "machine 12 3 2 8 3@:");
        bad(1, "machine 12 3 2 8 3 @speed");
        bad(1, "machine 12 3 2 8 3;@");
        bad(1, "machine 12 3 2 8 3;@;");
        bad(1, "machine 12 3 2 8 3;@ribbon");
        bad(1, "machine 12 3 2 8 3;speed 20 5 4 @-10");
        bad(1, "machine 12 3 2 8 3;speed 20 5 4 10 @ribbon");
        bad(1, "machine 12 3 2 8 3;speed 20 5 4 10;@tab 5");
        bad(1, "machine 12 3 2 8 3;speed 20 5 4 10;ribbon 6 5@");
        bad(1, "machine 12 3 2 8 3;speed 20 5 4 10;ribbon 6 5 @1111111111111111111111");
        bad(1, "machine 12 3 2 8 3;speed 20 5 4 10;ribbon 6 5 1@.");
    }

    private static void bounds() {
        bad(2, "machine @9 3 2 8 3;speed");
        bad(2, "machine @41 3 2 8 3;speed");
        bad(2, "machine 12 @0 2 8 3;speed");
        bad(2, "machine 12 @13 2 8 3;speed");
        bad(2, "machine 12 3 @11 8 3;speed");
        bad(2, "machine 12 3 2 @2 3;speed");
        bad(2, "machine 12 3 2 @12 3;speed");
        bad(2, "machine 12 3 2 8 @7;speed");
        bad(2, "machine 12 3 2 8 3;speed @0 5 4 10;");
        bad(1, "machine 12 3 2 8 3;speed @1000 5 4 10;");
        bad(2, "machine 12 3 2 8 3;speed 20 @0 4 10;");
        bad(2, "machine 12 3 2 8 3;speed 20 @100 4 10;");
        bad(2, "machine 12 3 2 8 3;speed 20 5 @100 10;");
        bad(2, "machine 12 3 2 8 3;speed 20 5 4 @100;");
        bad(2, "machine 12 3 2 8 3;speed 20 5 4 10;ribbon @4 5 1");
        bad(2, "machine 12 3 2 8 3;speed 20 5 4 10;ribbon @61 5 1");
        bad(2, "machine 12 3 2 8 3;speed 20 5 4 10;ribbon 6 @0 1");
        bad(2, "machine 12 3 2 8 3;speed 20 5 4 10;ribbon 6 @10 1");
        bad(2, "machine 12 3 2 8 3;speed 20 5 4 10;ribbon 6 5 @4");
    }

    private static void lineErrors() {
        bad(1, HEAD + " @bar a 5");
        bad(1, HEAD + " @2");
        bad(1, HEAD + ";@");
        bad(1, HEAD + "; @;");
        bad(1, HEAD + ";@machine");
        bad(1, HEAD + ";@bars a 5");
        bad(1, HEAD + ";@tabs 5");
        bad(1, HEAD + ";@7");
        bad(1, HEAD + ";@car a 5");
        bad(1, HEAD + ";@lab 5");
        bad(1, HEAD + ";@ba a 5");
        bad(1, HEAD + ";@tan 5");
        bad(1, HEAD + ";bar@");
        bad(1, HEAD + ";bar  @");
        bad(1, HEAD + ";bar @5");
        bad(1, HEAD + ";bar @;");
        bad(1, HEAD + ";bar @ab 5");
        bad(1, HEAD + ";bar @A 5");
        bad(1, HEAD + ";bar a@");
        bad(1, HEAD + ";bar a @b");
        bad(1, HEAD + ";bar a @;");
        bad(1, HEAD + ";bar a @0180");
        bad(2, HEAD + ";bar a @181");
        bad(1, HEAD + ";bar a 180 @5");
        bad(1, HEAD + ";bar a 180;@");
        bad(3, HEAD + ";bar a 180;bar b 5;bar @a 181");
        bad(1, HEAD + ";bar a 180;bar @aa 5");
        bad(1, HEAD + ";tab@");
        bad(1, HEAD + ";tab @a");
        bad(1, HEAD + ";tab @0005");
        bad(2, HEAD + ";tab @12");
        bad(3, HEAD + ";tab 5;tab 6;tab @005");
        bad(2, HEAD + ";tab 5;tab 6;tab @015");
        bad(1, HEAD + ";tab 5@:");
        bad(1, HEAD + ";tab 5 @6");
        bad(1, HEAD + ";tab 5;bar a 5;@");
    }

    /** The at sign marks the place of the error; it is no byte of the text. */
    private static void bad(int code, String marked) {
        int position = marked.indexOf('@');
        String text = marked.substring(0, position) + marked.substring(position + 1);
        TypebarMachine x = new TypebarMachine();
        CHECK.refuses("3: " + marked, Check.ARGUMENT, () -> Rig.load(x, text));
        CHECK.is("4: parseError of " + marked, x.parseError(), code);
        CHECK.is("5: errorPosition of " + marked, x.errorPosition(), position);
        CHECK.is("6: buffered behind " + marked, x.buffered(), 0);
        CHECK.refuses("3: no machine comes of " + marked, Check.STATE, () -> x.latest());
    }
}
