/** Counts answers that are not as due and prints each. */
final class Due {
    /** A call that may throw. */
    interface Call {
        Object make();
    }

    private int wrong = 0;
    private int looked = 0;
    private String about = "";

    /** What is printed ahead of the calls from now on. */
    void about(String told) {
        about = told;
    }

    int looked() {
        return looked;
    }

    void is(String call, Object got, Object want) {
        looked++;
        if (!got.equals(want)) {
            wrong++;
            System.out.println(about + call + " answered " + got + ", due is " + want);
        }
    }

    /** The call throws just this exception. */
    void throwsIt(String call, Class<? extends RuntimeException> want, Call made) {
        looked++;
        String got;
        try {
            got = String.valueOf(made.make());
        } catch (RuntimeException e) {
            got = e.getClass() == want ? null : e.getClass().getName();
        }
        if (got != null) {
            wrong++;
            System.out.println(about + call + " answered " + got + ", due is throws." + want.getSimpleName());
        }
    }

    /** Ends the test: exit code 1 if anything was wrong. */
    void end() {
        System.out.println(looked + " answers looked at, " + wrong + " not as due");
        if (wrong != 0 || looked == 0) {
            System.exit(1);
        }
    }
}
