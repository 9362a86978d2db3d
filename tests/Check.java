/** Counts and tells the answers that are not as due. */
final class Check {
    interface Call {
        void run();
    }

    private int right = 0;
    private int wrong = 0;
    private int sentences = 0;
    private int checksBefore = 0;
    private String sentence = "";

    /** Names the sentence of the document, to the letter, that the next checks would see broken. */
    void sentence(String where, String words) {
        endSentence();
        sentences++;
        sentence = where + ": " + words;
        checksBefore = right + wrong;
    }

    /** A sentence without a check behind it is not tested. */
    private void endSentence() {
        if (!sentence.isEmpty() && right + wrong == checksBefore) {
            wrong("no check");
        }
    }

    private void wrong(String told) {
        wrong++;
        System.out.println(told + (sentence.isEmpty() ? "" : "  [" + sentence + "]"));
    }

    void equal(String what, long got, long due) {
        if (got == due) {
            right++;
        } else {
            wrong(what + " answered " + got + ", due is " + due);
        }
    }

    void equal(String what, String got, String due) {
        if (got.equals(due)) {
            right++;
        } else {
            wrong(what + " answered " + got + ", due is " + due);
        }
    }

    void equal(String what, boolean got, boolean due) {
        equal(what, got ? 1 : 0, due ? 1 : 0);
    }

    /** Exactly this class: a subclass would be one that the machine itself has thrown. */
    void fails(String what, Class<?> due, Call call) {
        Class<?> got = thrownBy(call);
        if (got == due) {
            right++;
        } else {
            wrong(what + " threw " + got + ", due is " + due);
        }
    }

    void noPlace(String what, Call call) {
        fails(what, IndexOutOfBoundsException.class, call);
    }

    void noArgument(String what, Call call) {
        fails(what, IllegalArgumentException.class, call);
    }

    void notNow(String what, Call call) {
        fails(what, IllegalStateException.class, call);
    }

    static Class<?> thrownBy(Call call) {
        try {
            call.run();
            return null;
        } catch (RuntimeException e) {
            return e.getClass();
        }
    }

    void end() {
        endSentence();
        System.out.println(right + " answers as due, " + wrong + " not"
            + (sentences > 0 ? ", for " + sentences + " sentences" : ""));
        if (wrong != 0 || right == 0) {
            System.exit(1);
        }
    }
}
