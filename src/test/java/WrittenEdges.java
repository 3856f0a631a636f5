/** The sentences of the promises 37 to 40: texts. */
final class WrittenEdges {

    private static final String NO_LINE = "Throws `IndexOutOfBoundsException` if there is no such line";

    private final Edge edge;

    private WrittenEdges(Edge edge) {
        this.edge = edge;
    }

    static void hold(Edge edge) {
        WrittenEdges edges = new WrittenEdges(edge);
        edges.writeLine();
        edges.writeShades();
        edges.writeRuler();
        edges.textByte();
    }

    private static TypebarMachine typed(String keys) {
        TypebarMachine x = Rig.loaded("machine 10 2 0 9 0;speed 50 1 0 0;ribbon 5 9 0;bar a 90;bar z 90");
        Rig.type(x, keys);
        return x;
    }

    private void writeLine() {
        edge.promise(37, "Writes a line as a text that replaces the text that was written before: its letters, a space "
                + "for an empty\nplace,\n"
                + "up to the last one that is not empty.");
        line("", 0, "");
        line("a", 0, "a");
        line(" Z", 0, " Z");
        line("a        Z", 0, "a        Z");
        line("azAZazAZaz", 0, "azAZazAZaz");
        line("azAZazAZaz", 1, "");
        line("/         z", 1, "         z");
        line("/         z", 0, "");
        line("/azAZ", 0, "");

        edge.promise(37, NO_LINE);
        edge.range("line", Check.INDEX, 0, 2, TypebarMachine::writeLine);
        edge.refuses("line 1 of 1", Check.INDEX, () -> Rig.loaded(Texts.with(1, 1)), y -> y.writeLine(1));
        edge.answers("line 11 of 12", () -> Rig.loaded(Texts.with(1, 12)), y -> y.writeLine(11));
        edge.refuses("line 12 of 12", Check.INDEX, () -> Rig.loaded(Texts.with(1, 12)), y -> y.writeLine(12));
    }

    /** A longer text is written before, of which nothing may be left. */
    private void line(String keys, int line, String due) {
        TypebarMachine x = typed(keys);
        x.writeRuler();
        edge.is("bytes of the line " + line + " of " + keys, x.writeLine(line), due.length());
        edge.is("the line " + line + " of " + keys, Edge.text(x), due);
    }

    private void writeShades() {
        edge.promise(38, "Writes the darkness of the places of a line as a text that replaces the text that was written "
                + "before: a digit\n"
                + "for each one that is not empty, a space for an empty one, up to the last one that is not empty.");
        shades("", 0, "");
        shades("a", 0, "9");
        shades(" a", 0, " 9");
        shades("a        a", 0, "9        9");
        shades("aaaaaaaaaa", 0, "9999999999");
        shades("aaaaaaaaaa", 1, "");
        shades("/         a", 1, "         9");
        shades("/aaaaaaaaaa", 0, "");
        TypebarMachine pale = Rig.loaded("machine 12 2 0 11 0;speed 50 1 0 0;ribbon 5 1 1;bar a 90");
        Rig.type(pale, "aaaa a aa a");
        edge.is("the darkness 0 is a digit, too", pale.writeShades(0), 11);
        edge.is("up to it", Edge.text(pale), "1111 1 00 0");

        edge.promise(38, NO_LINE);
        edge.range("line", Check.INDEX, 0, 2, TypebarMachine::writeShades);
        edge.refuses("line 1 of 1", Check.INDEX, () -> Rig.loaded(Texts.with(1, 1)), y -> y.writeShades(1));
        edge.answers("line 11 of 12", () -> Rig.loaded(Texts.with(1, 12)), y -> y.writeShades(11));
        edge.refuses("line 12 of 12", Check.INDEX, () -> Rig.loaded(Texts.with(1, 12)), y -> y.writeShades(12));
    }

    private void shades(String keys, int line, String due) {
        TypebarMachine x = typed(keys);
        x.writeRuler();
        edge.is("bytes of the shades " + line + " of " + keys, x.writeShades(line), due.length());
        edge.is("the shades " + line + " of " + keys, Edge.text(x), due);
    }

    private void writeRuler() {
        edge.promise(39, "for each column, 0 to WIDTH less 1,\n"
                + "the first of these that applies: V (86) where the carriage is, L (76) for LEFT, R (82) for RIGHT, T "
                + "(84) for a\n"
                + "tab stop, a point (46).");
        ruler("machine 10 1 0 9 0" + Texts.TAIL, "", "V........R");
        ruler("machine 10 1 0 9 0" + Texts.TAIL, " ", "LV.......R");
        ruler("machine 10 1 0 9 0" + Texts.TAIL, ">", "L........V");
        ruler("machine 10 1 0 9 0" + Texts.TAIL, "> ", "L........R");
        ruler("machine 40 1 38 39 0" + Texts.TAIL, " ", ".".repeat(38) + "LV");
        ruler("machine 40 1 38 39 0" + Texts.TAIL + ";tab 0;tab 38;tab 39", "  ", "T" + ".".repeat(37) + "LR");
        ruler("machine 12 3 2 8 3" + Texts.TAIL + ";tab 2;tab 8;tab 5;tab 11", "", "..V..T..R..T");
        ruler("machine 12 3 2 8 3" + Texts.TAIL + ";tab 2;tab 8;tab 5;tab 11", ">", "..L..V..R..T");
        ruler("machine 12 3 2 8 3" + Texts.TAIL + ";tab 2;tab 8;tab 5;tab 11", ">>", "..L..T..V..T");
        ruler("machine 12 3 2 8 3" + Texts.TAIL + ";tab 2;tab 8;tab 5;tab 11", ">>>", "..L..T..R..V");
        TypebarMachine x = Rig.plain();
        x.writeRuler();
        edge.is("the bytes themselves", x.textByte(2) + " " + x.textByte(8) + " " + x.textByte(5) + " " + x.textByte(0),
                "86 82 84 46");
        x.press(0);
        x.writeRuler();
        edge.is("the byte of LEFT", x.textByte(2), 76);
    }

    private void ruler(String text, String keys, String due) {
        TypebarMachine x = Rig.loaded(text);
        Rig.type(x, keys);
        edge.is("bytes of the ruler", x.writeRuler(), due.length());
        edge.is("the ruler of " + text + " behind " + keys, Edge.text(x), due);
    }

    private void textByte() {
        edge.promise(40, "`i`: index of the byte, from 0");
        Edge.Maker ruler = () -> {
            TypebarMachine x = Used.machineAndKeys();
            x.writeRuler();
            return x;
        };
        for (int i = 0; i < 12; i++) {
            int index = i;
            edge.answers("byte " + i, ruler, x -> x.textByte(index));
        }

        edge.promise(40, "Throws `IndexOutOfBoundsException` if there is no such byte (always, before the first text)");
        for (int i : new int[] {-1, 12, 39, 40, Integer.MIN_VALUE, Integer.MAX_VALUE}) {
            edge.refuses("byte " + i, Check.INDEX, ruler, x -> x.textByte(i));
        }
        for (int i : new int[] {-1, 0, 1, Integer.MIN_VALUE, Integer.MAX_VALUE}) {
            edge.refuses("byte " + i + " without a machine", Check.INDEX, TypebarMachine::new, x -> x.textByte(i));
            edge.refuses("byte " + i + " before the first text", Check.INDEX, Rig::plain, x -> x.textByte(i));
        }
        Edge.Maker none = () -> {
            TypebarMachine x = ruler.make();
            x.newPage();
            x.writeLine(0);
            return x;
        };
        edge.refuses("byte 0 of a text of none", Check.INDEX, none, x -> x.textByte(0));
        Edge.Maker widest = () -> {
            TypebarMachine x = Rig.loaded(Texts.with(0, 40));
            x.writeRuler();
            return x;
        };
        edge.answers("byte 39 of 40", widest, x -> x.textByte(39));
        edge.refuses("byte 40 of 40", Check.INDEX, widest, x -> x.textByte(40));
    }
}
