/** The sentences under "Terms", 5 Text format of a machine, and of the promises 1 to 6. */
final class TextEdges {

    private static final String HEAD = "machine 12 3 2 8 3" + Texts.TAIL;
    private static final int[] WRONG_NUMBERS = {-1, 21, 500, Integer.MIN_VALUE, Integer.MAX_VALUE};

    private final Edge edge;

    private TextEdges(Edge edge) {
        this.edge = edge;
    }

    static void hold(Edge edge) {
        TextEdges edges = new TextEdges(edge);
        edges.tokens();
        edges.runs();
        edges.grammar();
        edges.firstError();
        edges.errorOne();
        edges.errorTwo();
        edges.errorThree();
        edges.newObject();
        edges.append();
        edges.load();
        edges.loadedAnew();
        edges.loadOutOfBuffer();
        edges.loadOfError();
        edges.parseError();
        edges.buffered();
    }

    private void takes(String text, int bars) {
        TypebarMachine x = new TypebarMachine();
        edge.is("bars of " + text, Rig.load(x, text), bars);
        edge.is("the error of " + text, x.parseError() + " at " + x.errorPosition(), "0 at -1");
    }

    private void refuses(String marked, int code) {
        Texts.refuses(edge, marked, code);
    }

    private void tokens() {
        edge.term(5, "The input buffer holds at most 500 bytes.");
        TypebarMachine x = full();
        edge.is("25 times 20 bytes", x.buffered(), 500);
        edge.refuses("no byte 501", Check.INDEX, TextEdges::full, y -> y.load(501));
        edge.is("a text in all of them", x.load(500), 1);

        edge.term(5, "Tokens are words (1 to 7 lower-case letters), numbers (1 to 3 digits) and the semicolon.");
        takes(HEAD + ";bar a 5", 1);
        takes(HEAD + ";bar z 180;tab 11", 1);
        refuses("@machinee" + HEAD.substring(7), 1);
        refuses(HEAD + ";bar a @0005", 1);
        refuses(HEAD + "@:bar a 5", 1);

        edge.term(5, "Blanks (byte 32) only separate tokens.");
        takes("machine12 3 2 8 3;speed20 5 4 10;ribbon6 5 1;bar a5;tab5", 1);
        takes("   machine   12  3 2 8 3  ;  speed 20 5 4 10  ;ribbon 6 5 1  ;  bar  a  5  ;  tab  5   ", 1);
        takes("machine 12 3 0 1 1" + Texts.TAIL, 0);
        refuses("machine 12 3 0 11@" + Texts.TAIL, 1);
        for (int other : new int[] {0, 9, 10, 31, 33, 160, 255}) {
            refuses("machine@" + (char) other + HEAD.substring(8), 1);
            refuses(HEAD + "@" + (char) other, 1);
        }
    }

    /** 500 bytes: blanks, then a machine with one bar up to the last byte. */
    private static TypebarMachine full() {
        TypebarMachine x = new TypebarMachine();
        String text = HEAD + ";bar a 5";
        Rig.feed(x, " ".repeat(500 - text.length()) + text);
        return x;
    }

    private void runs() {
        edge.term(5, "A run of letters ends at the first byte that is not a\nlower-case letter");
        takes("machine12" + HEAD.substring(10), 0);
        takes(HEAD + ";bar a0;bar z0", 2);
        refuses("machine@`" + HEAD.substring(7), 1);
        refuses("machine@{" + HEAD.substring(7), 1);
        refuses("machine@Z" + HEAD.substring(7), 1);
        refuses(HEAD + ";@bara 5", 1);
        refuses(HEAD + ";bar a@`5", 1);
        refuses(HEAD + ";bar z@{5", 1);

        edge.term(5, "a run of digits ends at the first byte that is not a digit");
        takes("machine 12 3 2 8 3;speed 909 99 90 9;ribbon 6 5 1", 0);
        takes("machine 12 3 2 8 3;speed 20 5 4 10;ribbon 6 5 1;tab 0;tab 9;tab 10", 0);
        refuses("machine 12@/3 2 8 3" + Texts.TAIL, 1);
        refuses("machine 12@:3 2 8 3" + Texts.TAIL, 1);
        refuses("machine 12 3 2 8 3@speed 20 5 4 10;ribbon 6 5 1", 1);

        edge.term(5, "leading zeros count as digits");
        takes("machine 012 003 002 008 003;speed 020 005 004 010;ribbon 006 005 001;bar a 000", 1);
        refuses("machine @0012 3 2 8 3" + Texts.TAIL, 1);
        refuses(HEAD + ";tab @0000", 1);
    }

    private void grammar() {
        edge.term(5, "text = \"machine\" WIDTH LINES LEFT RIGHT BELL \";\" \"speed\" PACE RISE CLEAR NEAR \";\" \"ribbon\" "
                + "LENGTH INK WEAR {\";\" line}");
        takes(HEAD, 0);
        takes(HEAD + ";tab 0", 0);
        for (String other : new String[] {"nachine", "machinf", "macine", "machin", "machinem", "speed", "m"}) {
            refuses("@" + other + HEAD.substring(7), 1);
        }
        for (String other : new String[] {"tpeed", "speee", "sped", "spee", "speeds", "ribbon", "s"}) {
            refuses("machine 12 3 2 8 3;@" + other + " 20 5 4 10;ribbon 6 5 1", 1);
        }
        for (String other : new String[] {"sibbon", "ribboo", "rbbon", "ribbo", "ribbons", "tab", "r"}) {
            refuses("machine 12 3 2 8 3;speed 20 5 4 10;@" + other + " 6 5 1", 1);
        }
        refuses(HEAD + ";@", 1);
        refuses(HEAD + ";tab 0;@", 1);
        refuses(HEAD + " @2", 1);
        refuses(HEAD + " @tab 0", 1);
        refuses(HEAD + ";@;tab 0", 1);
        refuses("machine 12 3 2 8@;speed 20 5 4 10;ribbon 6 5 1", 1);
        refuses("machine 12 3 2 8 3 @3" + Texts.TAIL, 1);
        refuses("machine 12 3 2 8 3;speed 20 5 4@;ribbon 6 5 1", 1);
        refuses("machine 12 3 2 8 3;speed 20 5 4 10 @10;ribbon 6 5 1", 1);
        refuses("machine 12 3 2 8 3;speed 20 5 4 10;ribbon 6 5@;tab 0", 1);

        edge.term(5, "line = \"bar\" LETTER ANGLE | \"tab\" COLUMN");
        takes(HEAD + ";bar a 0;tab 0", 1);
        refuses(HEAD + ";bar a@", 1);
        refuses(HEAD + ";bar a 0 @0", 1);
        refuses(HEAD + ";tab@", 1);
        refuses(HEAD + ";tab 0 @0", 1);
        for (String other : new String[] {"ba", "bars", "car", "bbr", "bas", "b", "a", "ribbon"}) {
            refuses(HEAD + ";@" + other + " a 0", 1);
        }
        for (String other : new String[] {"ta", "tabs", "uab", "tbb", "tac", "t", "machine"}) {
            refuses(HEAD + ";@" + other + " 0", 1);
        }

        edge.term(5, "LETTER is a word of one letter, COLUMN is 0 to WIDTH less 1.");
        takes(HEAD + ";bar a 0;bar z 0", 2);
        refuses(HEAD + ";bar @aa 0", 1);
        refuses(HEAD + ";bar @0 0", 1);
        refuses(HEAD + ";bar @A 0", 1);
        TypebarMachine x = Rig.loaded(HEAD + ";tab 0;tab 11");
        edge.is("the first and the last column", x.isStop(0) && x.isStop(11) && x.count(1) == 2, true);
        refuses(HEAD + ";tab @12", 2);
        refuses(Texts.with(0, 40) + ";tab 39;tab @40", 2);
        refuses(HEAD + ";tab @-1", 1);
    }

    private void firstError() {
        edge.term(5, "Parsing stops at the first token, from the left, at which an error is found");
        refuses("machine @9 0 99 99 99", 2);
        refuses("machine 10 @13 x", 2);
        refuses("machine 10 @x 0", 1);
        refuses(HEAD + ";bar a 0;bar @a 181;?", 3);
        refuses(HEAD + ";bar a @181;bar a 0", 2);

        edge.term(5, "if several errors apply to that token,\nthe smallest code is reported");
        refuses("machine @0041 3 2 8 3" + Texts.TAIL, 1);
        refuses("machine @0009 3 2 8 3" + Texts.TAIL, 1);
        refuses("machine 12 3 2 8 3;speed @1000 5 4 10;ribbon 6 5 1", 1);
        refuses(HEAD + ";bar a @0181", 1);
        refuses(HEAD + ";tab 5;tab @0005", 1);

        edge.term(5, "The position of an error is the index of the token's first byte");
        refuses("@x", 1);
        refuses("   @xyz", 1);
        refuses("machine   @041", 2);
        refuses(HEAD + ";bar a 0;bar  @a 0", 3);

        edge.term(5, "at the end of the\ntext it is the number of bytes that are parsed");
        refuses("@", 1);
        refuses("   @", 1);
        refuses("machine@", 1);
        refuses("machine   @", 1);
        refuses(HEAD + ";bar a   @", 1);
        cut("machine", " 12 3 2 8 3" + Texts.TAIL);
        cut("machine 1", "2 3 2 8 3" + Texts.TAIL, 8, 2);
        cut(HEAD + ";", "tab 5");
        cut(HEAD + ";bar", "s a 5");
        cut(HEAD + ";bar a", "b 5");
        cut(HEAD + ";bar a ", "5");
        cut("", HEAD);
    }

    private void cut(String parsed, String behind) {
        cut(parsed, behind, parsed.length(), 1);
    }

    /** Bytes behind the ones that are parsed are there, but do not count. */
    private void cut(String parsed, String behind, int position, int code) {
        TypebarMachine x = new TypebarMachine();
        Rig.feed(x, parsed + behind);
        edge.is(parsed + " is taken", tryToLoad(x, parsed.length()), false);
        edge.is("the error of " + parsed, x.parseError() + " at " + x.errorPosition(), code + " at " + position);
    }

    private static boolean tryToLoad(TypebarMachine x, int n) {
        try {
            x.load(n);
            return true;
        } catch (IllegalArgumentException e) {
            return false;
        }
    }

    private void errorOne() {
        edge.term(5, "1: a byte that starts no token");
        takes(HEAD + ";tab 0", 0);
        String letter = HEAD + ";bar ";
        for (int other = 0; other < 256; other++) {
            boolean isLetter = other >= 'a' && other <= 'z';
            TypebarMachine x = new TypebarMachine();
            boolean taken = tryToLoad(x, Rig.feed(x, letter + (char) other + " 5"));
            edge.is("byte " + other + " for a LETTER", taken, isLetter);
            // A blank is followed by a number, which is no LETTER either.
            int position = other == 32 ? letter.length() + 2 : letter.length();
            String due = isLetter ? "0 at -1" : "1 at " + position;
            edge.is("the error of it", x.parseError() + " at " + x.errorPosition(), due);
        }

        edge.term(5, "a word of 8 or more letters");
        takes(HEAD, 0);
        refuses("@machinee 12", 1);
        refuses("@aaaaaaaa", 1);
        refuses("@" + "a".repeat(480), 1);
        refuses(HEAD + ";bar @aaaaaaaa 5", 1);

        edge.term(5, "a number of 4 or more digits");
        takes(HEAD + ";tab 005", 0);
        refuses(HEAD + ";tab @0005", 1);
        refuses(HEAD + ";tab @00005", 1);
        refuses(HEAD + ";tab @4294967301", 1);
        refuses(HEAD + ";tab @" + "0".repeat(430), 1);

        edge.term(5, "a token that the grammar\ndoes not allow here (also a word of more than one letter for a LETTER)");
        takes(HEAD + ";bar b 5", 1);
        refuses(HEAD + ";bar @bb 5", 1);
        refuses(HEAD + ";bar @bar 5", 1);
        refuses(HEAD + ";bar @; 5", 1);
        refuses(HEAD + ";bar b @b", 1);
        refuses(HEAD + ";@5", 1);
        refuses("@12", 1);
        refuses("@;", 1);

        edge.term(5, "or the end of the text where a line is not\ncomplete");
        takes(HEAD + ";bar b 5", 1);
        for (String line : new String[] {";", ";bar", ";bar b", ";tab", ";bar b 5;", ";tab 5;"}) {
            refuses(HEAD + line + "@", 1);
        }
        // Of the head each line that is cut is refused, too: at its end, or at a number that is cut.
        for (int n = 0; n < HEAD.length(); n++) {
            TypebarMachine x = new TypebarMachine();
            Rig.feed(x, HEAD);
            edge.is("the first " + n + " bytes", tryToLoad(x, n), false);
        }
    }

    private void errorTwo() {
        edge.term(5, "2: a number out of its bounds.");
        int[][] bounds = {{0, 10, 40}, {1, 1, 12}, {4, 0, 6}, {5, 1, 999}, {6, 1, 99}, {7, 0, 99}, {8, 0, 99}, {9, 5, 60},
            {10, 1, 9}, {11, 0, 3}};
        for (int[] bound : bounds) {
            Texts.bounds(edge, bound[0], bound[1], bound[2]);
        }
        takes("machine 12 3 0 11 11" + Texts.TAIL, 0);
        takes("machine 12 3 10 11 1" + Texts.TAIL, 0);
        refuses("machine 12 3 @11 11 0" + Texts.TAIL, 2);
        refuses("machine 12 3 10 @10 0" + Texts.TAIL, 2);
        refuses("machine 12 3 10 @12 0" + Texts.TAIL, 2);
        takes(HEAD + ";bar a 0;bar b 180;tab 0;tab 11", 2);
        refuses(HEAD + ";bar a @181", 2);
        refuses(HEAD + ";bar a @999", 2);
        refuses(HEAD + ";tab @12", 2);
        refuses(HEAD + ";tab @999", 2);
        Texts.takes(edge, "machine 12 3 2 8 6", 4, 6);
        refuses("machine 12 3 2 8 @7" + Texts.TAIL, 2);
        Texts.takes(edge, "machine 12 3 2 3 1", 4, 1);
        refuses("machine 12 3 2 3 @2" + Texts.TAIL, 2);
    }

    private void errorThree() {
        edge.term(5, "3: a LETTER that has a bar already, or a COLUMN that has a tab stop already.");
        takes(HEAD + ";bar a 5;bar b 5;tab 5;tab 4;tab 6", 2);
        refuses(HEAD + ";bar a 5;bar @a 5", 3);
        refuses(HEAD + ";bar a 5;bar b 5;bar @a", 3);
        refuses(HEAD + ";bar a 5;bar b 5;bar @b 181", 3);
        refuses(HEAD + ";tab 5;tab @5", 3);
        refuses(HEAD + ";tab 0;tab 5;tab @000", 3);
        refuses(HEAD + ";tab 11;tab 5;tab @11", 3);
    }

    private void newObject() {
        edge.promise(1, "Creates an object without a machine and with an empty input buffer.");
        TypebarMachine x = new TypebarMachine();
        edge.is("buffered", x.buffered(), 0);
        edge.is("undoable", x.undoable(), 0);
        edge.refuses("no machine", Check.STATE, TypebarMachine::new, y -> y.count(0));
        edge.refuses("no byte", Check.INDEX, TypebarMachine::new, y -> y.load(1));
        edge.refuses("no text", Check.INDEX, TypebarMachine::new, y -> y.textByte(0));
        edge.refuses("nothing saved", Check.STATE, TypebarMachine::new, y -> y.restore(0));
        edge.refuses("nothing to undo", Check.STATE, TypebarMachine::new, TypebarMachine::undo);
    }

    private void append() {
        edge.promise(2, "Appends twenty bytes to the input buffer: the four bytes of each argument in order, the most "
                + "significant byte\n"
                + "first.");
        StringBuilder text = new StringBuilder(Texts.with(0, 12));
        for (char letter = 'a'; letter <= 't'; letter++) {
            text.append(";bar ").append(letter).append(" 90");
        }
        for (int i = 0; i < 20; i++) {
            // Twenty bytes that are all keys but the one at i.
            TypebarMachine x = Rig.loaded(text.toString());
            StringBuilder keys = new StringBuilder("^^^^^^^^^^^^^^^^^^^^");
            keys.setCharAt(i, '\u00ff');
            edge.is("keys ahead of the byte " + i, x.wouldType(Rig.feed(x, keys.toString()), 0), i);
            keys.setCharAt(i, (char) ('a' + i));
            TypebarMachine y = Rig.loaded(text.toString());
            Rig.type(y, keys.toString());
            edge.is("the byte " + i, y.latest(), i);
        }
        TypebarMachine signs = Rig.plain();
        signs.append(-1, 0, Integer.MIN_VALUE, Integer.MAX_VALUE, 0x80808080);
        edge.is("bytes of negative numbers are bytes", signs.buffered() * 100 + signs.type(20) * 10 + signs.reason(), 2003);

        String[] bullets = {"`a`: bytes 0 to 3", "`b`: bytes 4 to 7", "`c`: bytes 8 to 11", "`d`: bytes 12 to 15",
                "`e`: bytes 16 to 19"};
        for (int i = 0; i < 5; i++) {
            edge.promise(2, bullets[i]);
            int[] given = {0x5e5e5e5e, 0x5e5e5e5e, 0x5e5e5e5e, 0x5e5e5e5e, 0x5e5e5e5e};
            given[i] = 0x005e5e5e;
            edge.is("the first byte of it", keysAhead(given), 4 * i);
            given[i] = 0x5e5e5e00;
            edge.is("the last byte of it", keysAhead(given), 4 * i + 3);
        }

        edge.promise(2, "Returns the number of bytes in the buffer; NONE if there would be more than 500, in which case "
                + "nothing is appended.");
        TypebarMachine x = new TypebarMachine();
        for (int times = 1; times <= 25; times++) {
            edge.is("append " + times, x.append(0, 0, 0, 0, 0), 20 * times);
        }
        edge.is("append 26", x.append(0, 0, 0, 0, 0), -1);
        edge.is("append 27", x.append(0, 0, 0, 0, 0), -1);
        edge.is("bytes in the buffer", x.buffered(), 500);
        TypebarMachine text500 = full();
        edge.is("append behind a text of 500 bytes", text500.append(-1, -1, -1, -1, -1), -1);
        edge.is("the text is as it was", text500.load(500), 1);
        edge.is("the buffer is free again", text500.append(0, 0, 0, 0, 0), 20);
    }

    private static int keysAhead(int[] given) {
        TypebarMachine x = Rig.plain();
        x.append(given[0], given[1], given[2], given[3], given[4]);
        return x.wouldType(20, 0);
    }

    private void load() {
        edge.promise(3, "Parses the first n bytes of the input buffer as a machine and empties the buffer, even if the "
                + "parse fails.");
        TypebarMachine all = new TypebarMachine();
        Rig.feed(all, HEAD + " ".repeat(20 - HEAD.length() % 20));
        edge.is("all bytes", all.load(all.buffered()) + all.buffered(), 0);
        TypebarMachine some = new TypebarMachine();
        Rig.feed(some, HEAD + "?????");
        edge.is("those ahead of others", some.load(HEAD.length()) + some.buffered(), 0);
        TypebarMachine more = new TypebarMachine();
        Rig.feed(more, HEAD + "?????");
        edge.is("one byte more", tryToLoad(more, HEAD.length() + 1), false);
        edge.is("the buffer then", more.buffered(), 0);
        TypebarMachine none = new TypebarMachine();
        Rig.feed(none, HEAD);
        edge.is("0 bytes", tryToLoad(none, 0), false);
        edge.is("their error", none.parseError() + " at " + none.errorPosition(), "1 at 0");
        edge.is("the buffer then", none.buffered(), 0);
        TypebarMachine empty = new TypebarMachine();
        edge.is("0 bytes of an empty buffer", tryToLoad(empty, 0), false);
        edge.is("their error", empty.parseError() + " at " + empty.errorPosition(), "1 at 0");

        edge.promise(3, "Returns the number of bars.");
        takes(HEAD, 0);
        takes(HEAD + ";bar a 5", 1);
        StringBuilder text = new StringBuilder(HEAD);
        for (char letter = 'z'; letter >= 'a'; letter--) {
            text.append(";bar ").append(letter).append(" 5");
        }
        takes(text.toString(), 26);
    }

    private void loadedAnew() {
        edge.promise(3, "On success the machine replaces the previous one, the page is empty, nothing was typed, "
                + "nothing can be undone, and\n"
                + "no state is saved.");
        String fresh = Rig.all(Rig.plain());
        TypebarMachine x = Used.machine();
        edge.is("changes ahead of it", x.undoable(), 8);
        Rig.load(x, Rig.PLAIN);
        edge.is("all is as on a new object", Rig.all(x), fresh);
        edge.is("changes behind it", x.undoable(), 0);
        Edge.Maker anew = () -> {
            TypebarMachine y = Used.machine();
            Rig.load(y, Rig.PLAIN);
            return y;
        };
        edge.refuses("nothing to undo", Check.STATE, anew, TypebarMachine::undo);
        edge.refuses("slot 0", Check.STATE, anew, y -> y.restore(0));
        edge.refuses("slot 1", Check.STATE, anew, y -> y.restore(1));
        TypebarMachine jam = Rig.plain();
        jam.set(5, 1);
        edge.is("a jam", Rig.type(jam, "ab") * 10 + jam.reason(), 15);
        Rig.load(jam, Rig.PLAIN);
        edge.is("no jam behind it", Rig.all(jam), fresh);
        TypebarMachine tried = Used.machineAndKeys();
        tried.wouldType(20, 0);
        tried.paceFor(20);
        tried.type(0);
        Rig.feed(tried, "aaaaaaa/c c?");
        tried.wouldType(12, 0);
        tried.printsLeft();
        tried.type(0);
        Rig.load(tried, Rig.PLAIN);
        edge.is("what would have been typed was not", Rig.all(tried), fresh);
        Rig.load(x, "machine 10 1 0 1 0;speed 1 1 0 0;ribbon 5 1 0");
        edge.is("a smaller machine: its settings", Rig.settings(x), "10 1 0 1 0 1 1 0 0 5 1 0 1");
        edge.is("its counts", Rig.counts(x), "0 0 0 0 0 0 0 0 0 0 0 0 0 0");
    }

    private void loadOutOfBuffer() {
        edge.promise(3, "Throws `IndexOutOfBoundsException` if n is negative or greater than the number of bytes in the buffer; "
                + "the buffer, parseError() and errorPosition() stay");
        for (int n : WRONG_NUMBERS) {
            Edge.Maker twenty = Used::machineAndKeys;
            edge.is("bytes in the buffer", twenty.make().buffered(), 20);
            edge.refuses("load of " + n + " bytes", Check.INDEX, twenty, x -> x.load(n));
        }
        TypebarMachine x = new TypebarMachine();
        Rig.feed(x, HEAD + " ".repeat(20 - HEAD.length() % 20));
        edge.is("as many as there are", x.load(x.buffered()), 0);
        edge.refuses("a byte of none", Check.INDEX, TypebarMachine::new, y -> y.load(1));
        edge.refuses("a byte too many", Check.INDEX, Used::without, y -> y.load(y.buffered() + 1));
        edge.refuses("a byte too many behind an error", Check.INDEX, Used::withoutByAnError, y -> y.load(y.buffered() + 1));
        edge.is("the error of that one", Used.withoutByAnError().parseError() * 10 + Used.withoutByAnError().errorPosition(), 28);
    }

    private void loadOfError() {
        edge.promise(3, "Throws `IllegalArgumentException` if the text has an error; the previous machine stays");
        refuses("@", 1);
        refuses(HEAD + ";@", 1);
        refuses(HEAD + ";tab @12", 2);
        refuses(HEAD + ";tab 11;tab @11", 3);
        takes(HEAD + ";tab 11", 0);
        edge.refusesLoad("no machine comes of it", TypebarMachine::new, x -> Rig.load(x, "machine 12"));
    }

    private void parseError() {
        edge.promise(4, "Returns the parse error code of the latest call of load that did not throw IndexOutOfBoundsException.");
        TypebarMachine x = Used.machine();
        edge.is("code 2", x.parseError(), 2);
        edge.is("a load of too many bytes", outOfBuffer(x), "IndexOutOfBoundsException");
        edge.is("the code stays", x.parseError(), 2);
        Rig.load(x, HEAD);
        edge.is("a load that succeeds", x.parseError(), 0);
        edge.is("a load of too many bytes, again", outOfBuffer(x), "IndexOutOfBoundsException");
        edge.is("0 stays, too", x.parseError(), 0);

        edge.promise(4, "Returns the code 1 to 3; 0 if that call succeeded or if there was none.");
        edge.is("there was none", new TypebarMachine().parseError(), 0);
        edge.is("it succeeded", Rig.plain().parseError(), 0);
        refuses("@", 1);
        refuses("machine @9", 2);
        refuses(HEAD + ";tab 5;tab @5", 3);

        edge.promise(5, "Returns the position of the parse error of that call of load.");
        TypebarMachine y = Used.machine();
        edge.is("position 8", y.errorPosition(), 8);
        edge.is("a load of too many bytes", outOfBuffer(y), "IndexOutOfBoundsException");
        edge.is("the position stays", y.errorPosition(), 8);

        edge.promise(5, "Returns the position; NONE if parseError() is 0.");
        edge.is("no load", new TypebarMachine().errorPosition(), -1);
        edge.is("a load that succeeds", Rig.plain().errorPosition(), -1);
        Rig.load(y, HEAD);
        edge.is("a load that succeeds behind one that failed", y.errorPosition(), -1);
        refuses("@?", 1);
        refuses(" ".repeat(499) + "@?", 1);
        refuses(" ".repeat(500) + "@", 1);
    }

    private static String outOfBuffer(TypebarMachine x) {
        try {
            return "answer " + x.load(x.buffered() + 1);
        } catch (RuntimeException e) {
            return e.getClass().getSimpleName();
        }
    }

    private void buffered() {
        edge.promise(6, "Returns the number of bytes in the input buffer.");
        TypebarMachine x = new TypebarMachine();
        edge.is("none", x.buffered(), 0);
        x.append(0, 0, 0, 0, 0);
        edge.is("one append", x.buffered(), 20);
        edge.is("a full buffer", full().buffered(), 500);
        tryToLoad(x, 0);
        edge.is("behind a load that fails", x.buffered(), 0);
        TypebarMachine typed = Used.machineAndKeys();
        typed.type(0);
        edge.is("behind a text of 0 bytes", typed.buffered(), 0);
    }
}
