/** Promises 41 to 43: what each key does and for which reason it fails (sections 1 to 4 of the document). */
public final class KeysTest {

    private static final Check CHECK = new Check("KeysTest");

    public static void main(String[] args) {
        letter();
        darkness();
        ribbon();
        notBack();
        jam();
        jamRoom();
        jammedKeys();
        lock();
        bell();
        tab();
        back();
        returns();
        release();
        free();
        typing();
        typingStops();
        wrongArguments();
        CHECK.end();
    }

    private static void letter() {
        TypebarMachine x = Rig.plain();
        CHECK.is("41: strike", x.strike(2, false), 0);
        CHECK.is("41: strike with shift", x.strike(0, true), 0);
        CHECK.is("41: the line", Rig.line(x, 0), "  cA");
        CHECK.is("41: counts", Rig.counts(x), "4 2 40 2 0 0 0 0 0 0 0 0 0 2");
        CHECK.is("41: the bar", Rig.bar(x, 2), "c 0 14 1 8 0");
        CHECK.is("41: the other bar", Rig.bar(x, 0), "a 90 5 1 10 0");
        CHECK.is("41: latest", x.latest(), 0);
        CHECK.is("41: carriage", Rig.carriage(x), "0 4 0 0");
        CHECK.is("41: reason", x.reason() * 10 + x.reasonAt(), -1);
        CHECK.is("41: it is a change", x.undoable(), 2);
    }

    private static void darkness() {
        TypebarMachine x = Rig.plain();
        Rig.type(x, "a<B");
        CHECK.is("the letter that was printed latest stands", Rig.line(x, 0), "  B");
        CHECK.is("the darkness adds, up to 9", Rig.shades(x, 0), "  9");
        CHECK.is("letters on places that are not empty", x.count(12), 1);
        x.newPage();
        Rig.type(x, "a<A<a");
        CHECK.is("5 and 5 and 5 are 9", Rig.shades(x, 0), "  9");
        CHECK.is("letters on places that are not empty, again", x.count(12), 3);
        x.set(11, 3);
        x.newPage();
        x.newRibbon();
        Rig.type(x, "abababababab");
        CHECK.is("seven letters with WEAR 3", Rig.shades(x, 0), "  5555552");
        CHECK.is("WEAR takes ink, at most what is there", Rig.ribbon(x), "222220 4<");
        Rig.type(x, "/bababab");
        CHECK.is("darkness from places that were used", Rig.shades(x, 1), "  2222200");
        CHECK.is("ink is not below 0", Rig.ribbon(x), "000000 2>");
        Rig.type(x, "/a");
        CHECK.is("a letter without darkness is not empty", Rig.line(x, 2) + Rig.shades(x, 2), "  a  0");
        Rig.type(x, "<b");
        CHECK.is("a place with darkness 0 is overprinted", x.count(12), 4);
    }

    private static void ribbon() {
        TypebarMachine x = Rig.loaded("machine 40 1 0 39 0;speed 50 1 0 0;ribbon 5 9 1;bar a 90");
        CHECK.is("ribbon at first", Rig.ribbon(x), "99999 0>");
        Rig.type(x, "aaaa");
        CHECK.is("ribbon at its last place", Rig.ribbon(x), "88889 4>");
        Rig.type(x, "a");
        CHECK.is("the ribbon turns round, the place stays", Rig.ribbon(x), "88888 4<");
        CHECK.is("11: turns", x.count(11), 1);
        Rig.type(x, "a");
        CHECK.is("the same place is used again", Rig.ribbon(x), "88887 3<");
        Rig.type(x, "aaaa");
        CHECK.is("the ribbon turns round at the place 0", Rig.ribbon(x), "77777 0>");
        CHECK.is("11: turns back, too", x.count(11), 2);
        CHECK.is("the darkness of each letter", Rig.shades(x, 0), "9999988888");
        Rig.type(x, " >");
        CHECK.is("only letters move the ribbon", Rig.ribbon(x), "77777 0>");
    }

    private static void notBack() {
        TypebarMachine x = Rig.plain();
        x.strike(2, false);
        CHECK.is("41: a bar that is not back", x.strike(2, false), 4);
        CHECK.is("18: reason", x.reason(), 4);
        CHECK.is("its time passes", Rig.counts(x), "4 2 40 1 0 0 0 0 0 1 0 0 0 2");
        CHECK.is("its strike is not counted", Rig.bar(x, 2), "c 0 14 1 8 0");
        CHECK.is("the carriage stays", Rig.carriage(x), "0 3 0 0");
        x.set(5, 8);
        CHECK.is("a bar is back at twice its rise", x.strike(2, false), 0);
        x.set(5, 27);
        CHECK.is("and not before", x.strike(2, false), 4);
        x.undo();
        x.set(6, 4);
        CHECK.is("by its rise as it is now: 26", x.strike(2, true), 0);
        x.set(6, 99);
        CHECK.is("its rise now", Rig.bar(x, 2), "c 0 108 3 216 0");
        CHECK.is("a bar that was never struck is back", x.strike(3, false), 0);
        x.rest(300);
        CHECK.is("time lets it back", x.strike(2, false), 0);
    }

    private static void jam() {
        TypebarMachine x = Rig.plain();
        x.set(5, 9);
        x.strike(0, false);
        String ribbon = Rig.ribbon(x);
        CHECK.is("41: a jam", x.strike(1, false), 5);
        CHECK.is("counts of a jam", Rig.counts(x), "4 2 18 1 0 0 0 0 1 1 0 0 0 2");
        CHECK.is("the bar of the jam", Rig.bar(x, 1), "b 90 5 0 0 1");
        CHECK.is("the latest bar", Rig.bar(x, 0), "a 90 5 1 1 1");
        CHECK.is("no other bar", Rig.bar(x, 2) + Rig.bar(x, 3), "c 0 14 0 0 0d 180 14 0 0 0");
        CHECK.is("12: the latest stays", x.latest(), 0);
        CHECK.is("nothing is printed", Rig.line(x, 0), "  a");
        CHECK.is("the ribbon stays", Rig.ribbon(x), ribbon);
        CHECK.is("the carriage stays", Rig.carriage(x), "0 3 0 0");
        CHECK.is("18: reason", x.reason(), 5);

        TypebarMachine back = Rig.plain();
        back.set(5, 10);
        back.strike(0, false);
        CHECK.is("no jam when the latest bar is back", back.strike(1, false), 0);
        TypebarMachine same = Rig.plain();
        same.set(5, 9);
        same.strike(0, false);
        CHECK.is("a bar does not jam with itself", same.strike(0, false), 4);
        // They reach the page at 31, 41 and 33.
        TypebarMachine older = Rig.loaded("machine 12 3 2 8 3;speed 1 30 5 0;ribbon 6 5 1;bar a 90;bar b 0;bar c 90");
        CHECK.is("a bar jams with the latest one alone", Rig.type(older, "abc"), 3);
    }

    /** The room is CLEAR, plus NEAR less the difference of the angles; both reach the page at strike plus rise. */
    private static void jamRoom() {
        String head = "machine 12 3 2 8 3; speed 20 30 0 0; ribbon 6 5 1; bar a 90; bar b 99; bar c 100; bar d 0; bar e 109";
        jams(head, 12, 0, 0, 1, 11, 5);
        jams(head, 12, 0, 0, 1, 12, 0);
        jams(head, 12, 20, 0, 1, 22, 5);
        jams(head, 12, 20, 0, 1, 23, 0);
        jams(head, 12, 9, 0, 1, 11, 5);
        jams(head, 12, 9, 0, 1, 12, 0);
        jams(head, 12, 20, 1, 0, 22, 5);
        jams(head, 12, 20, 1, 0, 23, 0);
        // c and e rise for 31, a for 30: the difference of the rises counts.
        jams(head, 5, 0, 0, 2, 3, 5);
        jams(head, 5, 0, 0, 2, 4, 0);
        jams(head, 5, 0, 2, 0, 5, 5);
        jams(head, 5, 0, 2, 0, 6, 0);
        jams(head, 5, 0, 0, 4, 3, 5);
        jams(head, 5, 0, 0, 4, 4, 0);
        // d rises for 39, 9 more than a: behind d, a overtakes it.
        jams(head, 3, 0, 3, 0, 6, 0);
        jams(head, 3, 0, 3, 0, 7, 5);
        jams(head, 3, 0, 3, 0, 9, 5);
        jams(head, 3, 0, 3, 0, 11, 5);
        jams(head, 3, 0, 3, 0, 12, 0);
        jams(head, 0, 0, 3, 0, 9, 0);
        jams(head, 0, 91, 3, 0, 9, 5);
        jams(head, 0, 90, 3, 0, 9, 0);

        TypebarMachine x = Rig.loaded(head);
        x.set(7, 5);
        x.strike(0, false);
        x.set(5, 20);
        x.set(6, 10);
        CHECK.is("all rises are those of now", x.strike(1, false), 0);
    }

    private static void jams(String head, int clear, int near, int first, int second, int pace, int due) {
        TypebarMachine x = Rig.loaded(head);
        x.set(7, clear);
        x.set(8, near);
        x.strike(first, false);
        x.set(5, pace);
        String what = "jam of " + second + " behind " + first + " with CLEAR " + clear + ", NEAR " + near + ", PACE " + pace;
        CHECK.is("29: " + what, x.wouldBe(second, false), due);
        CHECK.is(what, x.strike(second, false), due);
        CHECK.is("count of " + what, x.count(8), due == 5 ? 1 : 0);
    }

    private static TypebarMachine jammed() {
        TypebarMachine x = Rig.plain();
        x.set(5, 9);
        Rig.type(x, "ab");
        return x;
    }

    private static void jammedKeys() {
        TypebarMachine x = jammed();
        CHECK.is("42: space in a jam", x.press(0), 1);
        CHECK.is("42: tab in a jam", x.press(1), 1);
        CHECK.is("42: back in a jam", x.press(2), 1);
        CHECK.is("42: return in a jam", x.press(3), 1);
        CHECK.is("41: a letter in a jam", x.strike(3, false), 1);
        CHECK.is("all of them failed", Rig.counts(x), "4 2 63 1 0 0 0 0 1 6 0 0 0 7");
        CHECK.is("42: release in a jam", x.press(4), 0);
        CHECK.is("the jam stays", x.bar(0, 5) + x.bar(1, 5), 2);
        CHECK.is("the margins are released in it", Rig.carriage(x), "0 3 0 1");
        TypebarMachine locked = jammed();
        Rig.type(locked, "!>>>ab");
        CHECK.is("locked at the column 10", Rig.carriage(locked), "0 10 1 0");
        CHECK.is("18: reason 2 is told", locked.reason(), 2);
        TypebarMachine both = jammed();
        both.setMargin(true, 5);
        both.setMargin(false, 0);
        both.set(4, 0);
        both.setMargin(true, 1);
        CHECK.is("jammed and locked", Rig.carriage(both), "0 3 1 0");
        CHECK.is("reason 1 comes ahead of 2", both.strike(0, false) * 10 + both.press(0), 11);
        TypebarMachine last = Rig.plain();
        last.set(5, 9);
        Rig.type(last, "//ab");
        CHECK.is("reason 1 comes ahead of 6", last.press(3), 1);
        last.press(5);
        CHECK.is("reason 6 otherwise", last.press(3), 6);
        TypebarMachine lock = Rig.plain();
        lock.set(5, 1);
        Rig.type(lock, "      c");
        CHECK.is("at RIGHT a letter is printed", Rig.line(lock, 0), "        c");
        CHECK.is("reason 2 comes ahead of 4", lock.strike(2, false), 2);
        CHECK.is("reason 2 comes ahead of 5", lock.strike(3, false), 2);
        lock.press(4);
        CHECK.is("reason 4", lock.strike(2, false), 4);
    }

    private static void lock() {
        TypebarMachine x = Rig.plain();
        CHECK.is("six spaces and a letter", Rig.type(x, "      a"), 7);
        CHECK.is("locked behind RIGHT", Rig.carriage(x), "0 9 1 0");
        CHECK.is("42: space at the lock", x.press(0), 2);
        CHECK.is("41: a letter at the lock", x.strike(1, false), 2);
        CHECK.is("counts", Rig.counts(x), "4 2 180 1 6 0 0 0 0 2 1 0 0 9");
        CHECK.is("42: tab is not locked", x.press(1), 0);
        CHECK.is("tab goes on", Rig.carriage(x), "0 10 1 0");
        x.press(4);
        CHECK.is("released margins", Rig.carriage(x), "0 10 0 1");
        CHECK.is("two letters more", Rig.type(x, "AB"), 2);
        CHECK.is("locked behind the last column", Rig.carriage(x), "0 12 1 1");
        CHECK.is("a space there", x.press(0), 2);
        CHECK.is("a letter there", x.strike(3, false), 2);
        CHECK.is("a release does not help there", x.press(4) * 10 + x.strike(3, false), 2);
        CHECK.is("the whole line", Rig.line(x, 0), "        a AB");
        TypebarMachine right = Rig.loaded("machine 10 2 0 9 0;speed 50 1 0 0;ribbon 5 1 0;bar a 90");
        CHECK.is("RIGHT is the last column", Rig.type(right, "aaaaaaaaaaa"), 10);
        CHECK.is("behind it", Rig.carriage(right), "0 10 1 0");
    }

    private static void bell() {
        TypebarMachine x = Rig.plain();
        Rig.type(x, "a ");
        CHECK.is("no bell at 4", x.count(10), 0);
        Rig.type(x, "a");
        CHECK.is("a letter rings at 5", x.count(10), 1);
        Rig.type(x, " < ");
        CHECK.is("going behind it rings no more", x.count(10), 1);
        Rig.type(x, "<< ");
        CHECK.is("a space rings at 5", x.count(10), 2);
        Rig.type(x, "<<>");
        CHECK.is("tab goes to 5 and does not ring", x.carriage(1) * 10 + x.count(10), 52);
        Rig.type(x, "  <<");
        CHECK.is("back goes to 5 and does not ring", x.carriage(1) * 10 + x.count(10), 52);
        x.set(4, 0);
        Rig.type(x, "   ");
        CHECK.is("BELL 0 rings at RIGHT", x.carriage(1) * 10 + x.count(10), 83);
        x.set(4, 6);
        Rig.type(x, "/");
        CHECK.is("return to LEFT does not ring", x.carriage(1) * 10 + x.count(10), 23);
        Rig.type(x, "^< ");
        CHECK.is("a space to LEFT rings with BELL RIGHT less LEFT", x.carriage(1) * 10 + x.count(10), 24);
    }

    private static void tab() {
        TypebarMachine x = Rig.plain();
        CHECK.is("42: tab", x.press(1), 0);
        CHECK.is("to the first stop", x.carriage(1), 5);
        x.press(1);
        CHECK.is("to the next one, behind RIGHT", Rig.carriage(x), "0 10 1 0");
        x.press(1);
        CHECK.is("without a stop it stays", Rig.carriage(x), "0 10 1 0");
        CHECK.is("5: tabs, those that stay, too", x.count(5), 3);
        x.setStop(10, false);
        Rig.type(x, "/>>");
        CHECK.is("without a stop it goes to RIGHT", Rig.carriage(x), "1 8 0 0");
        Rig.type(x, ">");
        CHECK.is("and stays there", Rig.carriage(x), "1 8 0 0");
        Rig.type(x, " >");
        CHECK.is("and behind it", Rig.carriage(x), "1 9 1 0");
        x.setStop(0, true);
        x.setStop(11, true);
        Rig.type(x, ">");
        CHECK.is("to the last column", Rig.carriage(x), "1 11 1 0");
        Rig.type(x, "^ >");
        CHECK.is("from WIDTH it stays", Rig.carriage(x), "1 12 1 1");
        CHECK.is("time and keys", Rig.counts(x), "4 3 260 0 2 9 0 1 0 0 0 0 0 13");
    }

    private static void back() {
        TypebarMachine x = Rig.plain();
        CHECK.is("42: back at LEFT", x.press(2), 0);
        CHECK.is("it stays", Rig.carriage(x), "0 2 0 0");
        CHECK.is("6: and counts", x.count(6), 1);
        Rig.type(x, "  <");
        CHECK.is("back goes one column", Rig.carriage(x), "0 3 0 0");
        Rig.type(x, "<<^<<<<");
        CHECK.is("with released margins to the column 0", Rig.carriage(x), "0 0 0 1");
        CHECK.is("6: backs", x.count(6), 8);
        x.setMargin(false, 1);
        Rig.type(x, "/^</");
        x.setMargin(false, 3);
        Rig.type(x, "<<<");
        CHECK.is("LEFT stops only there", Rig.carriage(x), "2 0 0 0");
        TypebarMachine end = Rig.plain();
        Rig.type(end, "^>>  <");
        CHECK.is("back from WIDTH", Rig.carriage(end), "0 11 0 1");
    }

    private static void returns() {
        TypebarMachine x = Rig.plain();
        Rig.type(x, "^< ");
        CHECK.is("42: return", x.press(3), 0);
        CHECK.is("to the next line, to LEFT, not released", Rig.carriage(x), "1 2 0 0");
        CHECK.is("42: return to the last line", x.press(3), 0);
        x.press(4);
        x.press(0);
        CHECK.is("42: return behind the last line", x.press(3), 6);
        CHECK.is("it changes nothing", Rig.carriage(x), "2 3 0 1");
        CHECK.is("its counts", Rig.counts(x), "4 2 160 0 2 0 1 2 0 1 0 0 0 8");
        TypebarMachine two = Rig.plain();
        two.set(12, 2);
        CHECK.is("SPACING 2", two.press(3), 0);
        CHECK.is("goes two lines", Rig.carriage(two), "2 2 0 0");
        TypebarMachine three = Rig.plain();
        three.set(12, 3);
        CHECK.is("SPACING 3 of 3 lines", three.press(3), 6);
        CHECK.is("18: reason 6", three.reason(), 6);
    }

    private static void release() {
        TypebarMachine x = Rig.plain();
        CHECK.is("42: release", x.press(4), 0);
        CHECK.is("it is released", Rig.carriage(x), "0 2 0 1");
        CHECK.is("42: release again", x.press(4), 0);
        CHECK.is("it stays released", Rig.carriage(x), "0 2 0 1");
        CHECK.is("counts of release", Rig.counts(x), "4 2 40 0 0 0 0 0 0 0 0 0 0 2");
        CHECK.is("it is a change", x.undoable(), 2);
    }

    private static void free() {
        TypebarMachine x = jammed();
        CHECK.is("42: free", x.press(5), 0);
        CHECK.is("its time is PACE and 100", x.count(2), 127);
        CHECK.is("no bar is jammed", x.bar(0, 5) + x.bar(1, 5), 0);
        CHECK.is("12: the latest stays", x.latest(), 0);
        CHECK.is("free counts as a key", Rig.counts(x), "4 2 127 1 0 0 0 0 1 1 0 0 0 3");
        CHECK.is("42: free without a jam", x.press(5), 0);
        CHECK.is("takes as long", x.count(2), 236);

        TypebarMachine slow = Rig.loaded("machine 12 3 2 8 3;speed 5 99 9 0;ribbon 6 5 1;bar a 90;bar b 90");
        Rig.type(slow, "ab");
        CHECK.is("two slow bars jam", slow.reason(), 5);
        CHECK.is("the latest one is not back", slow.bar(0, 4), 193);
        slow.press(5);
        CHECK.is("free brings it back at once", slow.bar(0, 4), 0);
        CHECK.is("it can be struck", slow.strike(0, false), 0);
        CHECK.is("the next one jams with it", slow.strike(1, false), 5);
        slow.press(5);
        CHECK.is("and is back, too", slow.strike(1, false), 0);
        slow.press(5);
        CHECK.is("free without a jam brings no bar back", slow.bar(1, 4), 93);
        TypebarMachine both = Rig.plain();
        Rig.type(both, "ba");
        both.set(5, 9);
        CHECK.is("a bar that was struck before jams", both.strike(1, false), 5);
        both.press(5);
        both.set(6, 99);
        CHECK.is("both are back, by whatever rise", both.bar(0, 4) + both.bar(1, 4), 0);
    }

    private static void typing() {
        TypebarMachine x = Rig.loaded(Rig.PLAIN);
        CHECK.is("43: keys and digits", Rig.type(x, "aB1 2>3<4/5^6!0a9"), 17);
        CHECK.is("43: their counts", Rig.counts(x), "4 2 580 3 1 1 1 1 0 0 1 0 0 9");
        CHECK.is("43: the first line", Rig.line(x, 0), "  aB");
        CHECK.is("43: the second line", Rig.line(x, 1), "  a");
        CHECK.is("43: no reason", x.reason() * 10 + x.reasonAt(), -1);
        CHECK.is("43: one change", x.undoable(), 1);
        CHECK.is("43: the buffer is emptied", x.buffered(), 0);
        x.undo();
        CHECK.is("43: undone as a whole", Rig.counts(x), "4 2 0 0 0 0 0 0 0 0 0 0 0 0");
        CHECK.is("43: undo gives no bytes back", x.buffered(), 0);

        Rig.feed(x, "aaaa");
        CHECK.is("43: less than the buffer", x.type(2), 2);
        CHECK.is("43: the rest is gone", x.buffered(), 0);
        CHECK.is("43: two letters", x.count(3), 2);
        CHECK.is("43: 0 bytes", x.type(0), 0);
        CHECK.is("43: are a change", x.undoable(), 2);
    }

    private static void typingStops() {
        TypebarMachine x = Rig.plain();
        CHECK.is("43: a letter without a bar", Rig.type(x, "a1ea"), 2);
        CHECK.is("18, 19: reason 3 at its byte", x.reason() * 10 + x.reasonAt(), 32);
        CHECK.is("no time passes by it, and it is no key", Rig.counts(x), "4 2 30 1 0 0 0 0 0 0 0 0 0 1");
        CHECK.is("43: the buffer is emptied, too", x.buffered(), 0);
        CHECK.is("43: it is a change, too", x.undoable(), 1);
        for (String wrong : new String[] {"E", "z", ";", ".", "\t", "\n", "@", "[", "`", "{", "?", "\u0000", "\u00ff", ":", "*"}) {
            x.press(0);
            CHECK.is("43: no key: " + wrong, Rig.type(x, wrong), 0);
            CHECK.is("reason of no key: " + wrong, x.reason() * 10 + x.reasonAt(), 30);
            x.press(2);
        }
        TypebarMachine jam = Rig.plain();
        jam.set(5, 9);
        CHECK.is("43: a jam", Rig.type(jam, "a b< aba"), 6);
        CHECK.is("18, 19: reason 5", jam.reason() * 10 + jam.reasonAt(), 56);
        CHECK.is("digits pass in a jam", Rig.type(jam, "55!"), 3);
        CHECK.is("18, 19: reason 0", jam.reason() * 10 + jam.reasonAt(), -1);
        CHECK.is("43: not back", Rig.type(jam, "cc"), 1);
        CHECK.is("18, 19: reason 4", jam.reason() * 10 + jam.reasonAt(), 41);
        CHECK.is("43: locked", Rig.type(jam, "9>> a"), 3);
        CHECK.is("18, 19: reason 2", jam.reason() * 10 + jam.reasonAt(), 23);
        CHECK.is("43: no line", Rig.type(jam, "///"), 2);
        CHECK.is("18, 19: reason 6", jam.reason() * 10 + jam.reasonAt(), 62);
        Rig.type(jam, "9a1");
        Rig.type(jam, "bc");
        Rig.type(jam, " ");
        CHECK.is("18, 19: reason 1 or none", jam.reason() + jam.reasonAt(), -1);
    }

    private static void wrongArguments() {
        TypebarMachine x = Rig.plain();
        Rig.feed(x, "ab");
        String before = Rig.all(x);
        CHECK.refuses("41: no bar", Check.INDEX, () -> x.strike(-1, false));
        CHECK.refuses("41: no bar 4", Check.INDEX, () -> x.strike(4, true));
        CHECK.refuses("41: the greatest", Check.INDEX, () -> x.strike(Integer.MAX_VALUE, true));
        CHECK.refuses("42: no key", Check.ARGUMENT, () -> x.press(-1));
        CHECK.refuses("42: no key 6", Check.ARGUMENT, () -> x.press(6));
        CHECK.refuses("43: n below 0", Check.INDEX, () -> x.type(-1));
        CHECK.refuses("43: n above the bytes", Check.INDEX, () -> x.type(21));
        CHECK.is("they change nothing", Rig.all(x), before);
        CHECK.is("the buffer stays", x.buffered(), 20);
        CHECK.is("they are no changes", x.undoable(), 0);
        TypebarMachine none = new TypebarMachine();
        Rig.feed(none, "ab");
        CHECK.refuses("43: without a machine", Check.STATE, () -> none.type(2));
        CHECK.is("43: the buffer stays", none.buffered(), 20);
    }
}
