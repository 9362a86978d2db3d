/** Counts and tells the answers that are not as due. */
final class Check {
    interface Call {
        void run();
    }

    private int right = 0;
    private int wrong = 0;

    void equal(String what, long got, long due) {
        if (got == due) {
            right++;
            return;
        }
        wrong++;
        System.out.println(what + " answered " + got + ", due is " + due);
    }

    void equal(String what, boolean got, boolean due) {
        equal(what, got ? 1 : 0, due ? 1 : 0);
    }

    /** Exactly this class: a subclass would be one that the machine itself has thrown. */
    void fails(String what, Class<?> due, Call call) {
        Class<?> got = thrownBy(call);
        if (got == due) {
            right++;
            return;
        }
        wrong++;
        System.out.println(what + " threw " + got + ", due is " + due);
    }

    void noPlace(String what, Call call) {
        fails(what, IndexOutOfBoundsException.class, call);
    }

    void noArgument(String what, Call call) {
        fails(what, IllegalArgumentException.class, call);
    }

    void notNow(String what, Call call) {
        fails(what, IllegalStateException.class, call);
    }

    static Class<?> thrownBy(Call call) {
        try {
            call.run();
            return null;
        } catch (RuntimeException e) {
            return e.getClass();
        }
    }

    void end() {
        System.out.println(right + " answers as due, " + wrong + " not");
        if (wrong != 0 || right == 0) {
            System.exit(1);
        }
    }
}
