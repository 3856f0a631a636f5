/** The sentences under "Terms", 1 The machine and 2 The ribbon. */
final class MachineEdges {

    private final Edge edge;

    private MachineEdges(Edge edge) {
        this.edge = edge;
    }

    static void hold(Edge edge) {
        MachineEdges edges = new MachineEdges(edge);
        edges.page();
        edges.margins();
        edges.stops();
        edges.bars();
        edges.rise();
        edges.times();
        edges.ribbon();
        edges.wear();
        edges.turn();
    }

    private void page() {
        edge.term(1, "The page has LINES lines (1 to 12), numbered from 0, and WIDTH columns (10 to 40),\nnumbered from 0.");
        Texts.bounds(edge, 0, 10, 40);
        Texts.bounds(edge, 1, 1, 12);
        lastPlace(Texts.with(1, 1, 0, 10), 0, 9);
        lastPlace(Texts.with(1, 12, 0, 40), 11, 39);

        edge.term(1, "the column can be WIDTH, which is behind the last\none");
        TypebarMachine x = Rig.plain();
        Rig.type(x, "^>>");
        edge.is("column at the last stop", x.carriage(1), 10);
        x.press(0);
        edge.is("the last column", Rig.carriage(x), "0 11 0 1");
        x.strike(0, false);
        edge.is("behind it", Rig.carriage(x), "0 12 1 1");
        edge.is("it goes no further", x.press(0) * 10 + x.strike(1, false), 22);
        edge.is("it is there still", Rig.carriage(x), "0 12 1 1");
        edge.is("the letter stands in the last column", x.sign(0, 11), (int) 'a');
    }

    private void lastPlace(String text, int line, int column) {
        String what = "line " + line + ", column " + column;
        TypebarMachine x = Rig.loaded(text);
        edge.is("the first place of a page up to " + what, x.sign(0, 0), 32);
        edge.is(what, x.sign(line, column), 32);
        Edge.Maker maker = () -> Rig.loaded(text);
        edge.refuses("the line behind " + what, Check.INDEX, maker, y -> y.sign(line + 1, column));
        edge.refuses("the column behind " + what, Check.INDEX, maker, y -> y.sign(line, column + 1));
        edge.refuses("the line before 0", Check.INDEX, maker, y -> y.sign(-1, 0));
        edge.refuses("the column before 0", Check.INDEX, maker, y -> y.sign(0, -1));
    }

    private void margins() {
        edge.term(1, "LEFT is 0 to WIDTH less 2, RIGHT is LEFT plus 1 to WIDTH less 1");
        Texts.takes(edge, "machine 12 3 0 8 3", 2, 0);
        Texts.takes(edge, "machine 12 3 10 11 1", 2, 10);
        Texts.refuses(edge, "machine 12 3 @11 11 0", 2);
        Texts.takes(edge, "machine 40 3 38 39 1", 2, 38);
        Texts.refuses(edge, "machine 40 3 @39 39 0", 2);
        Texts.takes(edge, "machine 12 3 2 3 1", 3, 3);
        Texts.refuses(edge, "machine 12 3 2 @2 0", 2);
        Texts.takes(edge, "machine 12 3 2 11 3", 3, 11);
        Texts.refuses(edge, "machine 12 3 2 @12 3", 2);
        Texts.takes(edge, "machine 12 3 0 1 0", 3, 1);
        Texts.refuses(edge, "machine 12 3 0 @0 0", 2);

        edge.term(1, "At first the carriage stands at the line 0 and at the column LEFT.");
        edge.is("LEFT 0", Rig.carriage(Rig.loaded(Texts.with(2, 0))), "0 0 0 0");
        edge.is("LEFT WIDTH less 2", Rig.carriage(Rig.loaded("machine 12 3 10 11 1" + Texts.TAIL)), "0 10 0 0");
    }

    private void stops() {
        edge.term(1, "Some columns have tab stops.");
        edge.is("none has", Rig.loaded(Texts.with(0, 12)).count(1), 0);
        StringBuilder text = new StringBuilder(Texts.with(0, 40));
        for (int column = 39; column >= 0; column--) {
            text.append(";tab ").append(column);
        }
        edge.is("all have", Rig.loaded(text.toString()).count(1), 40);
    }

    private void bars() {
        edge.term(1, "There is at most one bar for each letter a to z; bars are numbered from 0.");
        StringBuilder all = new StringBuilder(Texts.with(0, 12));
        for (char letter = 'a'; letter <= 'z'; letter++) {
            all.append(";bar ").append(letter).append(" 90");
        }
        String text = all.toString();
        TypebarMachine x = Rig.loaded(text);
        edge.is("a bar for each letter", x.count(0), 26);
        edge.is("the first and the last one", "" + (char) x.bar(0, 0) + (char) x.bar(25, 0), "az");
        edge.refuses("bar 26", Check.INDEX, () -> Rig.loaded(text), y -> y.bar(26, 0));
        edge.refuses("bar -1", Check.INDEX, () -> Rig.loaded(text), y -> y.bar(-1, 0));
        Texts.refuses(edge, text + ";bar @a 90", 3);
        Texts.refuses(edge, text + ";bar @z 90", 3);
        String none = Texts.with(0, 12);
        edge.is("no bars", Rig.loaded(none).count(0), 0);
        edge.refuses("bar 0 of none", Check.INDEX, () -> Rig.loaded(none), y -> y.bar(0, 0));

        edge.term(1, "A bar prints its letter, as a capital\nletter if it is struck with shift.");
        x.strike(0, false);
        x.strike(0, true);
        x.strike(25, false);
        x.strike(25, true);
        edge.is("the first and the last letter", Rig.line(x, 0), "  aAzZ");

        edge.term(1, "It has an angle (0 to 180).");
        edge.is("angle 0", Rig.loaded(Texts.with(0, 12) + ";bar a 0").bar(0, 1), 0);
        edge.is("angle 180", Rig.loaded(Texts.with(0, 12) + ";bar a 180").bar(0, 1), 180);
        Texts.refuses(edge, Texts.with(0, 12) + ";bar a @181", 2);
        Texts.refuses(edge, Texts.with(0, 12) + ";bar a @-1", 1);
    }

    private void rise() {
        edge.term(1, "Its rise is RISE (1 to 99) plus the difference of its\n"
                + "angle and 90 (without sign) divided by 10, rounded down.");
        Texts.bounds(edge, 6, 1, 99);
        int[] angles = {0, 1, 10, 11, 80, 81, 89, 90, 91, 99, 100, 169, 170, 179, 180};
        int[] more = {9, 8, 8, 7, 1, 0, 0, 0, 0, 0, 1, 7, 8, 8, 9};
        for (int i = 0; i < angles.length; i++) {
            for (int rise = 1; rise <= 99; rise += 98) {
                int got = Rig.loaded(Texts.with(6, rise) + ";bar a " + angles[i]).bar(0, 2);
                edge.is("rise of the angle " + angles[i] + " with RISE " + rise, got, rise + more[i]);
            }
        }
    }

    private void times() {
        edge.term(1, "The time is 0 at first.");
        edge.is("time", Rig.plain().count(2), 0);
        edge.is("time of the slowest machine", Rig.loaded(Texts.with(5, 999, 6, 99)).count(2), 0);

        edge.term(1, "A bar that is struck is back when the time is the time of that strike plus twice its rise,\n"
                + "or later, by its rise as it is now");
        afterStrike(5, 9, 4);
        afterStrike(5, 10, 0);
        afterStrike(5, 11, 0);
        afterStrike(4, 7, 4);
        afterStrike(4, 8, 0);
        afterStrike(6, 10, 4);
        afterStrike(6, 11, 4);
        afterStrike(6, 12, 0);

        edge.term(1, "bars that were never struck are back");
        TypebarMachine x = Rig.loaded(Texts.with(5, 1, 6, 99) + ";bar a 0;bar b 90");
        edge.is("at the time 0", x.bar(0, 4) + x.bar(1, 4), 0);
        edge.is("a bar that was struck is not", x.strike(0, false) * 1000 + x.bar(0, 4), 216);
        edge.is("the other one is", x.bar(1, 4) + x.wouldBe(1, false), 0);

        edge.term(1, "A bar that is jammed is back or not\nlikewise.");
        TypebarMachine jam = Rig.plain();
        jam.set(5, 4);
        edge.is("a jam", Rig.type(jam, "ab") * 10 + jam.reason(), 15);
        edge.is("the bar that was never struck is back, the other is in 6", jam.bar(1, 4) * 10 + jam.bar(0, 4), 6);
        edge.is("1 before it is back", jam.rest(5), 1);
        edge.is("when it is back", jam.rest(1), 0);
        edge.is("both are jammed still", jam.bar(0, 5) + jam.bar(1, 5), 2);
    }

    /** Bar a (rise 5) is struck, RISE becomes another, and its next key comes after some time. */
    private void afterStrike(int rise, int pace, int due) {
        TypebarMachine x = Rig.plain();
        x.strike(0, false);
        x.set(6, rise);
        x.set(5, pace);
        edge.is("key " + pace + " after the strike with RISE " + rise, x.strike(0, false), due);
    }

    private void ribbon() {
        edge.term(2, "The ribbon has LENGTH places (5 to 60), numbered from 0; each has ink, which is INK (1 to 9) at first.");
        Texts.bounds(edge, 9, 5, 60);
        Texts.bounds(edge, 10, 1, 9);
        lastInk(5, 1);
        lastInk(5, 9);
        lastInk(60, 1);
        lastInk(60, 9);

        edge.term(2, "One place is\nat the head, 0 at first, and the ribbon runs forward at first.");
        TypebarMachine x = Rig.plain();
        edge.is("head and way", x.head(0) * 10 + x.head(1), 1);

        edge.term(2, "When a letter is printed, its darkness is the ink at the head.");
        edge.is("INK 1", printed(1, 0, 1), "1");
        edge.is("INK 9", printed(9, 0, 1), "9");
        edge.is("no ink", printed(1, 1, 7), "1111100");
    }

    private void lastInk(int length, int ink) {
        String text = Texts.with(9, length, 10, ink);
        TypebarMachine x = Rig.loaded(text);
        edge.is("the first and the last of " + length, x.ribbon(0) * 10 + x.ribbon(length - 1), 11 * ink);
        edge.is("all ink of " + length, x.head(2), length * ink);
        edge.refuses("place " + length, Check.INDEX, () -> Rig.loaded(text), y -> y.ribbon(length));
        edge.refuses("place -1", Check.INDEX, () -> Rig.loaded(text), y -> y.ribbon(-1));
    }

    /** The shades of letters that are printed one behind the other with the shortest ribbon. */
    private static String printed(int ink, int wear, int letters) {
        TypebarMachine x = Rig.loaded("machine 12 3 0 11 0;speed 50 1 0 0;ribbon 5 " + ink + " " + wear + ";bar a 90");
        for (int i = 0; i < letters; i++) {
            x.strike(0, false);
        }
        return Rig.shades(x, 0);
    }

    private void wear() {
        edge.term(2, "Then the ink at the head becomes less by WEAR (0 to\n3), but not below 0.");
        Texts.bounds(edge, 11, 0, 3);
        int[][] cases = {{9, 0, 9}, {1, 0, 1}, {1, 1, 0}, {2, 1, 1}, {1, 2, 0}, {2, 2, 0}, {3, 2, 1}, {1, 3, 0}, {2, 3, 0},
            {3, 3, 0}, {4, 3, 1}, {9, 3, 6}};
        for (int[] c : cases) {
            TypebarMachine x = Rig.loaded("machine 12 3 2 8 3;speed 50 1 0 0;ribbon 5 " + c[0] + " " + c[1] + ";bar a 90");
            x.strike(0, false);
            edge.is("ink " + c[0] + " less WEAR " + c[1], x.ribbon(0), c[2]);
            edge.is("the next place has its ink", x.ribbon(1), c[0]);
        }
        TypebarMachine dry = Rig.loaded("machine 12 3 0 11 0;speed 50 1 0 0;ribbon 5 1 3;bar a 90");
        Rig.type(dry, "aaaaaa");
        edge.is("ink 0 stays 0", Rig.ribbon(dry), "00000 3<");
    }

    private void turn() {
        edge.term(2, "Then the next place (forward: the number greater by 1, otherwise less by 1) comes to the head; if\n"
                + "there is no such place, the ribbon turns round instead, and the same place stays at the head.");
        turns(5);
        turns(60);
    }

    private void turns(int length) {
        TypebarMachine x = Rig.loaded("machine 12 3 0 11 0;speed 50 1 0 0;ribbon " + length + " 9 1;bar a 90");
        strikes(x, length - 1);
        edge.is("the last of " + length, place(x), (length - 1) + "> 0");
        strikes(x, 1);
        edge.is("it stays at the head", place(x), (length - 1) + "< 1");
        strikes(x, 1);
        edge.is("the last but one", place(x), (length - 2) + "< 1");
        strikes(x, length - 2);
        edge.is("the first one", place(x), "0< 1");
        strikes(x, 1);
        edge.is("it stays at the head, too", place(x), "0> 2");
        strikes(x, 1);
        edge.is("the second one", place(x), "1> 2");
        edge.is("each place at the ends was used twice and the first once more", x.ribbon(0) * 10 + x.ribbon(length - 1), 67);
    }

    private static String place(TypebarMachine x) {
        return x.head(0) + (x.head(1) == 1 ? "> " : "< ") + x.count(11);
    }

    private static void strikes(TypebarMachine x, int letters) {
        for (int i = 0; i < letters; i++) {
            if (x.carriage(2) == 1) {
                x.newPage();
            }
            x.strike(0, false);
        }
    }
}
