/** Promises 37 to 40: the texts that are written. */
public final class WrittenTest {

    private static final Check CHECK = new Check("WrittenTest");

    public static void main(String[] args) {
        lines();
        shades();
        ruler();
        bytes();
        CHECK.end();
    }

    private static void lines() {
        TypebarMachine x = Rig.plain();
        CHECK.is("37: an empty line", x.writeLine(0), 0);
        CHECK.refuses("37: its text has no bytes", Check.INDEX, () -> x.textByte(0));
        Rig.type(x, "aB  c  /^<<dB>>aa");
        CHECK.is("37: the number of bytes", x.writeLine(0), 7);
        CHECK.is("37: letters and spaces", Rig.line(x, 0), "  aB  c");
        CHECK.is("37: a line from the first to the last column", Rig.line(x, 1), "dB        aa");
        CHECK.is("37: the last line", x.writeLine(2), 0);
        for (int no : new int[] {-1, 3, Integer.MIN_VALUE, Integer.MAX_VALUE}) {
            CHECK.refuses("37: no line " + no, Check.INDEX, () -> x.writeLine(no));
        }
    }

    private static void shades() {
        TypebarMachine x = Rig.plain();
        CHECK.is("38: an empty line", x.writeShades(0), 0);
        x.set(11, 3);
        Rig.type(x, "aB  c  /abb<d/^<<aaaaaa");
        CHECK.is("38: the number of bytes", x.writeShades(0), 7);
        CHECK.is("38: digits and spaces", Rig.shades(x, 0), "  55  5");
        CHECK.is("38: the darkness of two letters", Rig.shades(x, 1), "  557");
        CHECK.is("38: letters without darkness", Rig.shades(x, 2), "222220");
        CHECK.is("38: they are letters", Rig.line(x, 2), "aaaaaa");
        for (int no : new int[] {-1, 3, Integer.MIN_VALUE, Integer.MAX_VALUE}) {
            CHECK.refuses("38: no line " + no, Check.INDEX, () -> x.writeShades(no));
        }
    }

    private static void ruler() {
        TypebarMachine x = Rig.plain();
        CHECK.is("39: the number of bytes", x.writeRuler(), 12);
        CHECK.is("39: the carriage at LEFT", Rig.ruler(x), "..V..T..R.T.");
        Rig.type(x, ">");
        CHECK.is("39: the carriage at a stop", Rig.ruler(x), "..L..V..R.T.");
        x.setStop(2, true);
        x.setStop(8, true);
        x.setStop(0, true);
        x.setStop(11, true);
        CHECK.is("39: stops at the margins", Rig.ruler(x), "T.L..V..R.TT");
        Rig.type(x, "   ");
        CHECK.is("39: the carriage at RIGHT", Rig.ruler(x), "T.L..T..V.TT");
        Rig.type(x, "^>> ");
        CHECK.is("39: the carriage behind the last column", Rig.ruler(x), "T.L..T..R.TT");
        TypebarMachine wide = Rig.loaded("machine 40 1 0 39 0;speed 1 1 0 0;ribbon 5 1 0;tab 39");
        Rig.type(wide, " ");
        CHECK.is("39: 40 columns", Rig.ruler(wide), "LV" + ".".repeat(37) + "R");
    }

    private static void bytes() {
        TypebarMachine x = Rig.plain();
        CHECK.refuses("40: before the first text", Check.INDEX, () -> x.textByte(0));
        x.writeRuler();
        CHECK.is("40: the first byte", x.textByte(0), 46);
        CHECK.is("40: the last byte", x.textByte(11), 46);
        CHECK.is("40: the marks", x.textByte(2) + " " + x.textByte(5) + " " + x.textByte(8), "86 84 82");
        for (int no : new int[] {-1, 12, 39, 40, Integer.MIN_VALUE, Integer.MAX_VALUE}) {
            CHECK.refuses("40: no byte " + no, Check.INDEX, () -> x.textByte(no));
        }
        Rig.type(x, "a");
        CHECK.is("40: it is the text of then", Rig.written(x, 12), "..V..T..R.T.");
        x.save(0);
        x.undo();
        CHECK.is("40: it stays behind undo", Rig.written(x, 12), "..V..T..R.T.");
        x.restore(0);
        CHECK.is("40: it stays behind restore", Rig.written(x, 12), "..V..T..R.T.");
        CHECK.refuses("a call that throws", Check.INDEX, () -> x.writeLine(3));
        CHECK.is("40: it stays behind a call that throws", Rig.written(x, 12), "..V..T..R.T.");
        Rig.load(x, "machine 10 1 0 1 0;speed 1 1 0 0;ribbon 5 1 0");
        CHECK.is("40: it stays behind load", Rig.written(x, 12), "..V..T..R.T.");
        x.writeShades(0);
        CHECK.refuses("40: a text of no bytes replaces it", Check.INDEX, () -> x.textByte(0));
        CHECK.is("39: the next one", Rig.ruler(x), "VR........");
        CHECK.refuses("40: it is shorter", Check.INDEX, () -> x.textByte(10));
    }
}
