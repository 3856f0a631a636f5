/** Promises 20 to 28: looks. */
public final class LooksTest {

    private static final Check CHECK = new Check("LooksTest");

    public static void main(String[] args) {
        lines();
        letters();
        palest();
        meanDarkness();
        inkShare();
        slowest();
        nextStop();
        bellIn();
        CHECK.end();
    }

    private static void lines() {
        TypebarMachine x = Rig.plain();
        CHECK.is("20: an empty line", x.lineLength(0), 0);
        CHECK.is("21: an empty line", x.words(0), 0);
        Rig.type(x, "ab a  b/a/^<<a     b>>a");
        CHECK.is("20: a line", x.lineLength(0), 9);
        CHECK.is("21: a line", x.words(0), 3);
        CHECK.is("20: a line of one letter", x.lineLength(1), 3);
        CHECK.is("21: a line of one letter", x.words(1), 1);
        CHECK.is("20: a line from 0 on", x.lineLength(2), 11);
        CHECK.is("21: a line from 0 on", x.words(2), 3);
        Rig.type(x, "b");
        CHECK.is("20: a line that is full at its end", x.lineLength(2), 12);
        CHECK.is("21: a row at the end", x.words(2), 3);
        x.set(11, 3);
        Rig.type(x, "<a<a<a<a<a<a<a<a<a<a<a<a");
        x.newPage();
        Rig.type(x, " a");
        CHECK.is("a letter without darkness", x.darkness(0, 3), 0);
        CHECK.is("20: it counts", x.lineLength(0), 4);
        CHECK.is("21: it counts", x.words(0), 1);
        for (int no : new int[] {-1, 3, Integer.MIN_VALUE, Integer.MAX_VALUE}) {
            CHECK.refuses("20: no line " + no, Check.INDEX, () -> x.lineLength(no));
            CHECK.refuses("21: no line " + no, Check.INDEX, () -> x.words(no));
        }
        TypebarMachine first = Rig.plain();
        Rig.type(first, "^<<a");
        CHECK.is("20: the column 0 alone", first.lineLength(0), 1);
        CHECK.is("21: the column 0 alone", first.words(0), 1);
        CHECK.is("22: the column 0 of the line 0", first.letters('a'), 1);
        CHECK.is("23: the column 0 of the line 0", first.palest(), 0);
        CHECK.is("24: the column 0 of the line 0", first.meanDarkness(), 5.0);
        CHECK.is("49: the column 0 of the line 0", first.newPage(), 1);
        TypebarMachine wide = Rig.loaded("machine 10 2 0 9 0;speed 50 1 0 0;ribbon 5 9 0;bar a 90");
        Rig.type(wide, "aaaaaaaaaa/a");
        CHECK.is("21: a full line does not run on in the next one", wide.words(0) * 10 + wide.words(1), 11);
        CHECK.is("20: a full line", wide.lineLength(0), 10);
        Rig.type(wide, "aaaaaaaaa");
        CHECK.is("22: a full page", wide.letters('a'), 20);
        CHECK.is("24: a full page", wide.meanDarkness(), 9.0);
        wide.setMargin(true, 8);
        wide.newRibbon();
        wide.set(11, 3);
        CHECK.is("49: a full page", wide.newPage(), 20);
        Rig.type(wide, "/^>>>aaaaaaaa");
        CHECK.is("23: the last place of the page is not the palest", wide.palest(), 18);
        wide.newPage();
        wide.newRibbon();
        Rig.type(wide, "aaaaa/^> a");
        CHECK.is("23: the last place of the page is", wide.palest(), 19);
    }

    private static void letters() {
        TypebarMachine x = Rig.plain();
        Rig.type(x, "aaA b/aB<A");
        CHECK.is("22: a", x.letters('a'), 3);
        CHECK.is("22: A", x.letters('A'), 2);
        CHECK.is("22: b", x.letters('b'), 1);
        CHECK.is("22: B that was overprinted", x.letters('B'), 0);
        CHECK.is("22: a letter that is not there", x.letters('c'), 0);
        for (int no : new int[] {32, 0, -1, '@', '[', '`', '{', Integer.MIN_VALUE, Integer.MAX_VALUE, 'a' + 256}) {
            CHECK.is("22: other number " + no, x.letters(no), 0);
        }
    }

    private static void palest() {
        TypebarMachine x = Rig.loaded("machine 12 3 2 8 3;speed 20 5 4 10;ribbon 5 3 1;bar a 90");
        CHECK.is("23: an empty page", x.palest(), -1);
        Rig.type(x, "/aa");
        CHECK.is("23: the first one of several", x.palest(), 14);
        Rig.type(x, "aaaa");
        CHECK.is("23: the palest one", x.palest(), 19);
        Rig.type(x, "/aaaaaaa^>a>a");
        CHECK.is("23: in a later line", x.palest(), 30);
        x.newPage();
        CHECK.is("23: a new page", x.palest(), -1);
        x.set(11, 3);
        Rig.type(x, "aaaaaaa");
        x.newPage();
        Rig.type(x, "a");
        CHECK.is("23: a letter without darkness", x.palest(), 2);
    }

    private static void meanDarkness() {
        TypebarMachine x = Rig.loaded("machine 12 3 2 8 3;speed 20 5 4 10;ribbon 5 3 1;bar a 90");
        CHECK.is("24: an empty page", x.meanDarkness(), 0.0);
        Rig.type(x, "aaaaaaa");
        CHECK.is("24: seven letters", x.meanDarkness(), 19.0 / 7.0);
        Rig.type(x, "<a");
        CHECK.is("24: one place more dark", x.meanDarkness(), 21.0 / 7.0);
        x.set(11, 3);
        x.newPage();
        Rig.type(x, "aaaaaaa");
        x.newPage();
        Rig.type(x, "a");
        CHECK.is("24: a letter without darkness", x.meanDarkness(), 0.0);
    }

    private static void inkShare() {
        TypebarMachine x = Rig.loaded("machine 12 3 2 8 3;speed 20 5 4 10;ribbon 7 3 1;bar a 90");
        CHECK.is("25: a new ribbon", x.inkShare(), 1.0f);
        Rig.type(x, "a");
        CHECK.is("25: one letter", x.inkShare(), 20.0f / 21.0f);
        x.set(11, 3);
        Rig.type(x, "aaaaaa/aaaaaaa");
        CHECK.is("25: a dry ribbon", x.inkShare(), 0.0f);
        x.newRibbon();
        CHECK.is("25: a new ribbon again", x.inkShare(), 1.0f);
    }

    private static void slowest() {
        String head = "machine 12 3 2 8 3;speed 20 5 4 10;ribbon 6 5 1";
        CHECK.is("26: no bars", Rig.loaded(head).slowest(), -1);
        CHECK.is("26: one bar", Rig.loaded(head + ";bar a 90").slowest(), 0);
        CHECK.is("26: the first of several", Rig.plain().slowest(), 2);
        CHECK.is("26: by the rise, not by the angle", Rig.loaded(head + ";bar a 81;bar b 5;bar c 0;bar d 175").slowest(), 2);
        CHECK.is("26: angles of one rise", Rig.loaded(head + ";bar a 85;bar b 99;bar c 81").slowest(), 0);
    }

    private static void nextStop() {
        TypebarMachine x = Rig.plain();
        int[] due = {5, 5, 5, 5, 5, 10, 10, 10, 10, 10, 10, 11, 12};
        for (int column = 0; column <= 12; column++) {
            CHECK.is("27: from " + column, x.nextStop(column), due[column]);
        }
        x.setStop(10, false);
        x.setStop(0, true);
        int[] later = {5, 5, 5, 5, 5, 8, 8, 8, 8, 9, 10, 11, 12};
        for (int column = 0; column <= 12; column++) {
            CHECK.is("27: from " + column + " without the stop 10", x.nextStop(column), later[column]);
        }
        x.set(5, 9);
        Rig.type(x, "ab");
        CHECK.is("27: a jam does not matter", x.nextStop(0), 5);
        for (int no : new int[] {-1, 13, Integer.MIN_VALUE, Integer.MAX_VALUE}) {
            CHECK.refuses("27: no column " + no, Check.INDEX, () -> x.nextStop(no));
        }
    }

    private static void bellIn() {
        TypebarMachine x = Rig.plain();
        CHECK.is("28: from LEFT", x.bellIn(), 3);
        Rig.type(x, "  ");
        CHECK.is("28: at least 1", x.bellIn(), 1);
        Rig.type(x, " ");
        CHECK.is("28: where it rings", x.bellIn(), -1);
        Rig.type(x, " ");
        CHECK.is("28: behind it", x.bellIn(), -1);
        x.set(4, 0);
        CHECK.is("28: at RIGHT", x.bellIn(), 2);
        x.setMargin(true, 3);
        CHECK.is("28: locked", x.bellIn(), -1);
        Rig.type(x, "/");
        x.set(5, 9);
        Rig.type(x, "ab");
        CHECK.is("28: a jam", x.reason(), 5);
        x.setMargin(true, 11);
        CHECK.is("28: it does not matter", x.bellIn(), 8);
        x.set(4, 9);
        CHECK.is("28: at LEFT", x.bellIn(), -1);
        Rig.type(x, "!^<<<");
        CHECK.is("28: before LEFT", x.bellIn(), 2);
    }
}
