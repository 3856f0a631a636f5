/** The bounds that README.md tells by numbers and names, such as "RIGHT less 1", as they are for an object. */
final class Bounds {

    private static final String[] SETTINGS = {
        "WIDTH", "LINES", "LEFT", "RIGHT", "BELL", "PACE", "RISE", "CLEAR", "NEAR", "LENGTH", "INK", "WEAR", "SPACING"
    };

    private Bounds() {
    }

    /** Of several bounds with commas between them, the narrower one. */
    static int least(TypebarMachine x, String cell) {
        int least = Integer.MIN_VALUE;
        for (String bound : cell.split(", ")) {
            least = Math.max(least, one(x, bound));
        }
        return least;
    }

    static int greatest(TypebarMachine x, String cell) {
        int greatest = Integer.MAX_VALUE;
        for (String bound : cell.split(", ")) {
            greatest = Math.min(greatest, one(x, bound));
        }
        return greatest;
    }

    private static int one(TypebarMachine x, String bound) {
        String[] words = bound.split(" ");
        int value = number(x, words[0]);
        if (words.length == 3 && words[1].equals("plus")) {
            return value + number(x, words[2]);
        }
        if (words.length == 3 && words[1].equals("less")) {
            return value - number(x, words[2]);
        }
        if (words.length == 1) {
            return value;
        }
        throw new IllegalArgumentException("no bound: " + bound);
    }

    private static int number(TypebarMachine x, String word) {
        for (int what = 0; what < SETTINGS.length; what++) {
            if (SETTINGS[what].equals(word)) {
                return x.setting(what);
            }
        }
        return switch (word) {
            case "bars" -> x.count(0);
            case "buffer" -> x.buffered();
            case "text" -> Edge.text(x).length();
            default -> Integer.parseInt(word);
        };
    }
}
