/** Compares answers with what is due, prints each one that differs, and ends the program with 1 if there was one. */
final class Check {

    interface Call {
        Object answer();
    }

    static final Class<?> STATE = IllegalStateException.class;
    static final Class<?> INDEX = IndexOutOfBoundsException.class;
    static final Class<?> ARGUMENT = IllegalArgumentException.class;

    private final String test;
    private int asked;
    private int wrong;

    Check(String test) {
        this.test = test;
    }

    void is(String what, Object got, Object due) {
        asked++;
        if (!got.equals(due)) {
            wrong++;
            System.out.println(test + ": " + what + " is " + got + ", due is " + due);
        }
    }

    /** The very class is due: a subclass, as the Java machine throws them, is not. */
    void refuses(String what, Class<?> due, Call call) {
        is(what, thrownBy(call), due.getSimpleName());
    }

    private static String thrownBy(Call call) {
        try {
            return "answer " + call.answer();
        } catch (RuntimeException e) {
            return e.getClass().getSimpleName();
        }
    }

    void end() {
        System.out.println(test + ": " + (asked - wrong) + " of " + asked + " answers are as due");
        if (wrong > 0) {
            System.exit(1);
        }
    }
}
