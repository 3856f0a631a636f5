/** Objects on which much was done already, so that a call that has to change nothing has much to spoil. */
final class Used {

    private static final String PADDED = Rig.PLAIN + " ".repeat(20 - Rig.PLAIN.length() % 20);

    private Used() {
    }

    /** No machine, but the text of one in the buffer. */
    static TypebarMachine without() {
        TypebarMachine x = new TypebarMachine();
        Rig.feed(x, PADDED);
        return x;
    }

    /** No machine, because its text had an error (2, at byte 8); the buffer is as in without(). */
    static TypebarMachine withoutByAnError() {
        TypebarMachine x = new TypebarMachine();
        failToLoad(x);
        Rig.feed(x, PADDED);
        return x;
    }

    /** Page, ribbon, bars, counts, a reason, both slots, eight changes, a parse error and a text; an empty buffer. */
    static TypebarMachine machine() {
        TypebarMachine x = Rig.plain();
        failToLoad(x);
        Rig.type(x, "aB cA^<<a/b>Cd<d9?");
        x.save(0);
        x.setStop(3, true);
        x.setMargin(false, 1);
        x.set(7, 6);
        x.newRibbon();
        x.press(3);
        x.save(1);
        x.strike(0, true);
        x.rest(3);
        x.set(6, 15);
        x.strike(2, false);
        Rig.type(x, "  b9^ ;");
        x.writeLine(0);
        return x;
    }

    /** The same with keys in the buffer. */
    static TypebarMachine machineAndKeys() {
        TypebarMachine x = machine();
        Rig.feed(x, "bD 1<^d!>>a>/2 aAcC?");
        return x;
    }

    private static void failToLoad(TypebarMachine x) {
        int n = Rig.feed(x, "machine 9");
        try {
            x.load(n);
        } catch (IllegalArgumentException e) {
            // Its error is what is wanted.
        }
    }
}
