/** Counts the answers of one test that are not the ones that are due. */
final class Due {
    interface Call {
        void make();
    }

    private final String test;
    private int wrong = 0;
    private int asked = 0;

    Due(String test) {
        this.test = test;
    }

    void is(String call, long got, long want) {
        asked++;
        if (got != want) {
            tell(call + " answered " + got + ", due is " + want);
        }
    }

    void is(String call, double got, double want) {
        asked++;
        if (got != want) {
            tell(call + " answered " + got + ", due is " + want);
        }
    }

    void holds(String what, boolean so) {
        asked++;
        if (!so) {
            tell(what + " does not hold");
        }
    }

    /** The call throws this exception and no class below it, by a throw of the program's own, and changes nothing. */
    void refuses(String call, Class<? extends RuntimeException> want, TwoWires x, Call made) {
        asked++;
        long before = x.digest();
        RuntimeException got = thrownBy(made);
        if (got == null || got.getClass() != want) {
            tell(call + " threw " + got + ", due is " + want.getName());
        } else if (!thrownByProgram(got)) {
            tell(call + " let the machine throw " + got);
        }
        if (x.digest() != before) {
            tell(call + " changed something although it threw");
        }
    }

    static RuntimeException thrownBy(Call made) {
        try {
            made.make();
            return null;
        } catch (RuntimeException e) {
            return e;
        }
    }

    /** What the machine throws by itself for an index or a null has a message of its own form, or a frame of the library. */
    static boolean thrownByProgram(RuntimeException e) {
        StackTraceElement[] frames = e.getStackTrace();
        String text = e.getMessage() == null ? "" : e.getMessage();
        return frames.length > 0 && frames[0].getClassName().startsWith("TwoWires")
                && !text.startsWith("Index ") && !text.startsWith("Cannot ") && !text.startsWith("/ by");
    }

    void tell(String what) {
        wrong++;
        if (wrong <= 40) {
            System.out.println(test + ": " + what);
        }
    }

    boolean anyWrong() {
        return wrong != 0;
    }

    void end() {
        System.out.println(test + ": " + asked + " answers, " + wrong + " not as due");
        if (wrong != 0) {
            System.exit(1);
        }
    }
}
