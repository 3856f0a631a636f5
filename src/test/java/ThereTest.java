/** Promises 7 to 19: what there is. */
public final class ThereTest {

    private static final Check CHECK = new Check("ThereTest");

    public static void main(String[] args) {
        counts();
        settings();
        carriage();
        bars();
        barOf();
        latest();
        ribbon();
        head();
        page();
        stops();
        reasons();
        CHECK.end();
    }

    private static void counts() {
        TypebarMachine x = Rig.plain();
        x.set(5, 9);
        Rig.type(x, "ab");
        CHECK.is("7: counts after a jam", Rig.counts(x), "4 2 18 1 0 0 0 0 1 1 0 0 0 2");
        Rig.type(x, "!^<A");
        CHECK.is("7: counts after a letter on another", Rig.counts(x), "4 2 154 2 0 0 1 0 1 1 0 0 1 6");
        Rig.type(x, " 9a  >>/");
        CHECK.is("7: counts after a bell, a space and a tab", Rig.counts(x), "4 2 307 3 3 2 1 1 1 1 1 0 1 13");
        Rig.type(x, "//");
        CHECK.is("7: counts after a return that fails", Rig.counts(x), "4 2 325 3 3 2 1 2 1 2 1 0 1 15");
        Rig.type(x, "a9a9a9a9a");
        x.setStop(0, true);
        CHECK.is("7: counts after the ribbon turned", Rig.counts(x), "4 3 730 8 3 2 1 2 1 2 2 1 1 20");
        x.newRibbon();
        x.newPage();
        CHECK.is("7: counts after a new ribbon and a new page", Rig.counts(x), "4 3 730 8 3 2 1 2 1 2 2 1 1 20");
        for (int what : new int[] {-1, 14, 99, Integer.MIN_VALUE, Integer.MAX_VALUE}) {
            CHECK.refuses("7: count " + what, Check.ARGUMENT, () -> x.count(what));
        }
    }

    private static void settings() {
        TypebarMachine x = Rig.loaded("machine 38 11 3 30 9;speed 500 40 50 60;ribbon 59 8 2");
        CHECK.is("8: settings", Rig.settings(x), "38 11 3 30 9 500 40 50 60 59 8 2 1");
        x.set(12, 3);
        x.setMargin(false, 4);
        x.setMargin(true, 31);
        CHECK.is("8: settings that were changed", Rig.settings(x), "38 11 4 31 9 500 40 50 60 59 8 2 3");
        for (int what : new int[] {-1, 13, Integer.MIN_VALUE, Integer.MAX_VALUE}) {
            CHECK.refuses("8: setting " + what, Check.ARGUMENT, () -> x.setting(what));
        }
    }

    private static void carriage() {
        TypebarMachine x = Rig.plain();
        Rig.type(x, "/>");
        CHECK.is("9: line, column", Rig.carriage(x), "1 5 0 0");
        x.set(4, 0);
        x.setMargin(true, 5);
        CHECK.is("9: at RIGHT it is not locked", Rig.carriage(x), "1 5 0 0");
        x.setMargin(true, 4);
        CHECK.is("9: behind RIGHT it is", Rig.carriage(x), "1 5 1 0");
        x.press(4);
        CHECK.is("9: released it is not", Rig.carriage(x), "1 5 0 1");
        Rig.type(x, ">  ");
        CHECK.is("9: at WIDTH it is", Rig.carriage(x), "1 12 1 1");
        for (int what : new int[] {-1, 4, Integer.MIN_VALUE, Integer.MAX_VALUE}) {
            CHECK.refuses("9: carriage " + what, Check.ARGUMENT, () -> x.carriage(what));
        }
    }

    private static void bars() {
        TypebarMachine x = Rig.loaded("machine 12 3 2 8 3;speed 20 5 4 10;ribbon 6 5 1;bar z 0;bar y 80;bar x 81;"
                + "bar w 90;bar v 99;bar u 100;bar t 180;bar s 109;bar r 110;bar q 71;bar p 1");
        int[] rises = {14, 6, 5, 5, 5, 6, 14, 6, 7, 6, 13};
        for (int bar = 0; bar < rises.length; bar++) {
            CHECK.is("10: letter of bar " + bar, x.bar(bar, 0), 'z' - bar);
            CHECK.is("10: rise of bar " + bar, x.bar(bar, 2), rises[bar]);
        }
        CHECK.is("10: angle", x.bar(7, 1), 109);
        x.strike(0, true);
        x.strike(3, true);
        CHECK.is("10: struck and not back yet", Rig.bar(x, 0), "z 0 14 1 8 0");
        x.rest(7);
        CHECK.is("10: back in 1", x.bar(0, 4), 1);
        x.rest(1);
        CHECK.is("10: back", x.bar(0, 4), 0);
        x.rest(500);
        CHECK.is("10: back for long", x.bar(0, 4), 0);
        x.set(6, 50);
        CHECK.is("10: back by its rise as it is now", Rig.bar(x, 3), "w 90 50 1 0 0");
        x.strike(0, false);
        CHECK.is("10: twice the rise from the strike on", Rig.bar(x, 0), "z 0 59 2 118 0");
        x.set(6, 60);
        CHECK.is("10: longer with a greater rise", x.bar(0, 4), 138);
        x.set(6, 1);
        CHECK.is("10: shorter with a smaller one", x.bar(0, 4), 20);
        CHECK.is("10: the time until a bar is back stays below no bar", x.bar(1, 4), 0);
        CHECK.refuses("10: no bar", Check.INDEX, () -> x.bar(-1, 0));
        CHECK.refuses("10: no bar 11", Check.INDEX, () -> x.bar(11, 0));
        CHECK.refuses("10: no bar and no property", Check.INDEX, () -> x.bar(11, 6));
        CHECK.refuses("10: no property", Check.ARGUMENT, () -> x.bar(0, -1));
        CHECK.refuses("10: no property 6", Check.ARGUMENT, () -> x.bar(0, 6));
    }

    private static void barOf() {
        TypebarMachine x = Rig.loaded("machine 12 3 2 8 3;speed 20 5 4 10;ribbon 6 5 1;bar z 0;bar a 80;bar m 80");
        CHECK.is("11: small letters", x.barOf('z') * 100 + x.barOf('a') * 10 + x.barOf('m'), 12);
        CHECK.is("11: capital letters", x.barOf('Z') * 100 + x.barOf('A') * 10 + x.barOf('M'), 12);
        for (int none : new int[] {'b', 'B', 0, -1, 32, '@', '[', '`', '{', 'a' + 256, 'A' - 256, Integer.MIN_VALUE,
            Integer.MAX_VALUE, 'a' + 32, 'A' - 32, 1, 2}) {
            CHECK.is("11: no bar of " + none, x.barOf(none), -1);
        }
    }

    private static void latest() {
        TypebarMachine x = Rig.plain();
        CHECK.is("12: none", x.latest(), -1);
        x.press(0);
        CHECK.is("12: none by a space", x.latest(), -1);
        x.strike(3, false);
        CHECK.is("12: the bar", x.latest(), 3);
        x.strike(0, false);
        x.strike(0, false);
        x.press(1);
        x.press(3);
        CHECK.is("12: the latest bar", x.latest(), 0);
        x.strike(3, false);
        x.strike(3, false);
        CHECK.is("12: a key that fails is no strike", x.latest(), 3);
        x.newPage();
        x.newRibbon();
        CHECK.is("12: it stays with a new page and a new ribbon", x.latest(), 3);
    }

    private static void ribbon() {
        TypebarMachine x = Rig.plain();
        Rig.type(x, "aaa");
        CHECK.is("13: places", x.ribbon(0) * 100 + x.ribbon(2) * 10 + x.ribbon(5), 445);
        CHECK.refuses("13: no place", Check.INDEX, () -> x.ribbon(-1));
        CHECK.refuses("13: no place LENGTH", Check.INDEX, () -> x.ribbon(6));
        CHECK.refuses("13: no place 59", Check.INDEX, () -> x.ribbon(59));
    }

    private static void head() {
        TypebarMachine x = Rig.loaded("machine 12 3 0 11 3;speed 20 5 4 10;ribbon 5 3 2;bar a 90");
        CHECK.is("14: at first", x.head(0) + " " + x.head(1) + " " + x.head(2) + " " + x.head(3), "0 1 15 0");
        Rig.type(x, "aaaaaaa");
        CHECK.is("14: after 7 letters", x.head(0) + " " + x.head(1) + " " + x.head(2) + " " + x.head(3), "2 0 3 2");
        Rig.type(x, "aaa");
        CHECK.is("14: after 10 letters", x.head(0) + " " + x.head(1) + " " + x.head(2) + " " + x.head(3), "0 1 0 5");
        for (int what : new int[] {-1, 4, Integer.MIN_VALUE, Integer.MAX_VALUE}) {
            CHECK.refuses("14: head " + what, Check.ARGUMENT, () -> x.head(what));
        }
    }

    private static void page() {
        TypebarMachine x = Rig.plain();
        Rig.type(x, "aB/^<<A/c");
        CHECK.is("15: signs", "" + (char) x.sign(0, 2) + (char) x.sign(0, 3) + (char) x.sign(1, 0) + (char) x.sign(2, 2), "aBAc");
        CHECK.is("15: an empty place", x.sign(0, 4) + x.sign(2, 11), 64);
        CHECK.is("16: darkness", x.darkness(0, 2) * 10 + x.darkness(2, 2), 55);
        CHECK.is("16: darkness of an empty place", x.darkness(0, 4), 0);
        x.set(11, 0);
        Rig.type(x, "<C9");
        CHECK.is("15: the latest letter", x.sign(2, 2), (int) 'C');
        CHECK.is("16: the darkness is at most 9", x.darkness(2, 2), 9);
        for (int no : new int[] {-1, 12, Integer.MIN_VALUE, Integer.MAX_VALUE}) {
            CHECK.refuses("15: no column " + no, Check.INDEX, () -> x.sign(0, no));
            CHECK.refuses("16: no column " + no, Check.INDEX, () -> x.darkness(0, no));
        }
        for (int no : new int[] {-1, 3, 12, Integer.MIN_VALUE, Integer.MAX_VALUE}) {
            CHECK.refuses("15: no line " + no, Check.INDEX, () -> x.sign(no, 0));
            CHECK.refuses("16: no line " + no, Check.INDEX, () -> x.darkness(no, 0));
        }
    }

    private static void stops() {
        TypebarMachine x = Rig.plain();
        CHECK.is("17: stops", x.isStop(5) && x.isStop(10), true);
        CHECK.is("17: no stops", x.isStop(0) || x.isStop(4) || x.isStop(6) || x.isStop(11), false);
        CHECK.refuses("17: no column", Check.INDEX, () -> x.isStop(-1));
        CHECK.refuses("17: no column WIDTH", Check.INDEX, () -> x.isStop(12));
    }

    private static void reasons() {
        TypebarMachine x = Rig.plain();
        CHECK.is("18, 19: none at first", x.reason() * 10 + x.reasonAt(), -1);
        Rig.type(x, "cc");
        CHECK.is("18, 19: a text that stops", x.reason() * 10 + x.reasonAt(), 41);
        x.setStop(0, true);
        x.rest(5);
        x.set(5, 21);
        x.newPage();
        x.newRibbon();
        x.setMargin(false, 1);
        x.save(0);
        CHECK.is("18, 19: other changes let them be", x.reason() * 10 + x.reasonAt(), 41);
        x.wouldType(0, 0);
        x.paceFor(0);
        CHECK.is("18, 19: what would be lets them be", x.reason() * 10 + x.reasonAt(), 41);
        x.press(4);
        CHECK.is("18, 19: a key by itself", x.reason() * 10 + x.reasonAt(), -1);
        Rig.type(x, "  .");
        CHECK.is("18, 19: a text that stops at no key", x.reason() * 10 + x.reasonAt(), 32);
        x.strike(0, false);
        CHECK.is("18, 19: a letter by itself", x.reason() * 10 + x.reasonAt(), -1);
        x.strike(0, false);
        x.set(5, 1);
        x.strike(0, false);
        CHECK.is("18, 19: a letter that fails by itself", x.reason() * 10 + x.reasonAt(), 39);
        x.type(0);
        CHECK.is("18, 19: a text of 0 bytes", x.reason() * 10 + x.reasonAt(), -1);
        Rig.type(x, "?");
        Rig.type(x, "99");
        CHECK.is("18, 19: a text of digits", x.reason() * 10 + x.reasonAt(), -1);
        Rig.type(x, "99?");
        CHECK.is("18, 19: a byte behind digits", x.reason() * 10 + x.reasonAt(), 32);
        x.restore(0);
        CHECK.is("18, 19: they come back with a saved state", x.reason() * 10 + x.reasonAt(), 41);
    }
}
