/** Texts of machines with one thing at its boundary. */
final class Texts {

    static final String TAIL = ";speed 20 5 4 10;ribbon 6 5 1";

    private static final int[] USUAL = {12, 3, 2, 8, 3, 20, 5, 4, 10, 6, 5, 1};

    private Texts() {
    }

    /** A text without bars and stops; settings, by the numbers that setting() gives them, have other values. */
    static String with(int... settingsAndValues) {
        int[] values = USUAL.clone();
        for (int i = 0; i < settingsAndValues.length; i += 2) {
            values[settingsAndValues[i]] = settingsAndValues[i + 1];
        }
        String[] shown = new String[values.length];
        for (int i = 0; i < shown.length; i++) {
            shown[i] = "" + values[i];
        }
        return text(shown);
    }

    private static String text(String[] shown) {
        StringBuilder text = new StringBuilder("machine");
        for (int i = 0; i < shown.length; i++) {
            text.append(i == 5 ? ";speed" : i == 9 ? ";ribbon" : "").append(' ').append(shown[i]);
        }
        return text.toString();
    }

    /** Both bounds of a setting are taken, the numbers beside them are refused. */
    static void bounds(Edge edge, int what, int low, int high) {
        edge.is("setting " + what + " at its least", Rig.loaded(with(what, low)).setting(what), low);
        edge.is("setting " + what + " at its greatest", Rig.loaded(with(what, high)).setting(what), high);
        if (low > 0) {
            refuses(edge, marked(what, low - 1), 2);
        }
        refuses(edge, marked(what, high + 1), high == 999 ? 1 : 2);
    }

    private static String marked(int what, int value) {
        String[] shown = with(what, value).replaceAll("[^0-9]+", " ").trim().split(" ");
        shown[what] = "@" + shown[what];
        return text(shown);
    }

    static void takes(Edge edge, String head, int what, int value) {
        edge.is("setting " + what + " of " + head, Rig.loaded(head + TAIL).setting(what), value);
    }

    /** The at sign marks the place of the error; it is no byte of the text. */
    static void refuses(Edge edge, String marked, int code) {
        int position = marked.indexOf('@');
        String text = marked.substring(0, position) + marked.substring(position + 1);
        TypebarMachine x = new TypebarMachine();
        boolean taken = true;
        try {
            Rig.load(x, text);
        } catch (IllegalArgumentException e) {
            taken = false;
        }
        edge.is(marked + " is taken", taken, false);
        edge.is("the error of " + marked, x.parseError() + " at " + x.errorPosition(), code + " at " + position);
        edge.is("the buffer behind " + marked, x.buffered(), 0);
        edge.refusesLoad(marked, Used::machine, y -> Rig.load(y, text));
    }
}
