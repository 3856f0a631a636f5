/** What the tests do with a machine again and again. */
final class Rig {

    // Rises: a and b 5, c and d 14. The bell rings at column 5.
    static final String PLAIN = "machine 12 3 2 8 3; speed 20 5 4 10; ribbon 6 5 1; "
            + "bar a 90; bar b 90; bar c 0; bar d 180; tab 5; tab 10";

    private Rig() {
    }

    static TypebarMachine plain() {
        return loaded(PLAIN);
    }

    static TypebarMachine loaded(String text) {
        TypebarMachine x = new TypebarMachine();
        load(x, text);
        return x;
    }

    static int load(TypebarMachine x, String text) {
        return x.load(feed(x, text));
    }

    static int type(TypebarMachine x, String text) {
        return x.type(feed(x, text));
    }

    /** Appends a text, with zeros behind it that no call is meant to look at; gives its length. */
    static int feed(TypebarMachine x, String text) {
        for (int i = 0; i < text.length(); i += 20) {
            x.append(four(text, i), four(text, i + 4), four(text, i + 8), four(text, i + 12), four(text, i + 16));
        }
        return text.length();
    }

    private static int four(String text, int from) {
        int bytes = 0;
        for (int i = from; i < from + 4; i++) {
            bytes = bytes * 256 + (i < text.length() ? text.charAt(i) : 0);
        }
        return bytes;
    }

    static String written(TypebarMachine x, int length) {
        StringBuilder text = new StringBuilder();
        for (int i = 0; i < length; i++) {
            text.append((char) x.textByte(i));
        }
        return text.toString();
    }

    static String line(TypebarMachine x, int line) {
        return written(x, x.writeLine(line));
    }

    static String shades(TypebarMachine x, int line) {
        return written(x, x.writeShades(line));
    }

    static String ruler(TypebarMachine x) {
        return written(x, x.writeRuler());
    }

    static String counts(TypebarMachine x) {
        StringBuilder told = new StringBuilder();
        for (int what = 0; what <= 13; what++) {
            told.append(what == 0 ? "" : " ").append(x.count(what));
        }
        return told.toString();
    }

    static String settings(TypebarMachine x) {
        StringBuilder told = new StringBuilder();
        for (int what = 0; what <= 12; what++) {
            told.append(what == 0 ? "" : " ").append(x.setting(what));
        }
        return told.toString();
    }

    /** Line, column, locked, released. */
    static String carriage(TypebarMachine x) {
        return x.carriage(0) + " " + x.carriage(1) + " " + x.carriage(2) + " " + x.carriage(3);
    }

    /** Letter, angle, rise, strikes, time until it is back, jammed. */
    static String bar(TypebarMachine x, int bar) {
        StringBuilder told = new StringBuilder();
        told.append((char) x.bar(bar, 0));
        for (int what = 1; what <= 5; what++) {
            told.append(' ').append(x.bar(bar, what));
        }
        return told.toString();
    }

    /** The ink at each place, then the place at the head and the way the ribbon runs. */
    static String ribbon(TypebarMachine x) {
        StringBuilder told = new StringBuilder();
        for (int place = 0; place < x.setting(9); place++) {
            told.append(x.ribbon(place));
        }
        return told + " " + x.head(0) + (x.head(1) == 1 ? ">" : "<");
    }

    /** All that calls tell without being given a text to type. */
    static String all(TypebarMachine x) {
        StringBuilder told = new StringBuilder();
        told.append(counts(x)).append('|').append(settings(x)).append('|').append(carriage(x));
        for (int bar = 0; bar < x.count(0); bar++) {
            told.append('|').append(bar(x, bar)).append(' ').append(x.wouldBe(bar, false)).append(' ').append(x.freeIn(bar));
        }
        told.append('|').append(x.latest()).append('|').append(ribbon(x)).append('|');
        for (int column = 0; column < x.setting(0); column++) {
            told.append(x.isStop(column) ? 'T' : '.');
        }
        for (int line = 0; line < x.setting(1); line++) {
            told.append('|');
            for (int column = 0; column < x.setting(0); column++) {
                told.append((char) x.sign(line, column)).append(x.darkness(line, column));
            }
        }
        return told.append('|').append(x.reason()).append(' ').append(x.reasonAt()).toString();
    }
}
