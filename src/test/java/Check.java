/** Compares answers with those that are due, prints those that differ, and ends the program accordingly. */
final class Check {
    interface Call {
        Object answer();
    }

    private final String about;
    private int wrong;
    private int all;

    Check(String about) {
        this.about = about;
    }

    /** A wanted class is that of an exception; anything else is the answer itself. */
    void due(String what, Object want, Call call) {
        due(what, want, outcome(call));
    }

    void due(String what, Object want, Object got) {
        all++;
        if (!want.equals(got)) {
            wrong++;
            System.out.println(what + " answered " + got + ", due is " + want);
        }
    }

    static Object outcome(Call call) {
        try {
            return call.answer();
        } catch (RuntimeException e) {
            return e.getClass();
        }
    }

    boolean hasWrong() {
        return wrong > 0;
    }

    void end() {
        System.out.println(about + ": " + all + " answers, " + wrong + " wrong");
        if (wrong > 0) {
            System.exit(1);
        }
    }
}
