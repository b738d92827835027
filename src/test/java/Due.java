import java.util.function.Consumer;
import java.util.function.Supplier;

/** Counts the answers of one test that are not the ones that are due. */
final class Due {
    interface Call {
        void make();
    }

    private final String test;
    private String part = "";
    private int wrong = 0;
    private int asked = 0;

    Due(String test) {
        this.test = test;
    }

    /** What the next answers belong to; it is told with each that is wrong. */
    void begins(String part) {
        this.part = part + ": ";
    }

    void is(String call, long got, long want) {
        asked++;
        if (got != want) {
            tell(call + " answered " + got + ", due is " + want);
        }
    }

    void is(String call, double got, double want) {
        asked++;
        if (got != want) {
            tell(call + " answered " + got + ", due is " + want);
        }
    }

    void holds(String what, boolean so) {
        asked++;
        if (!so) {
            tell(what + " does not hold");
        }
    }

    void is(String what, String got, String want) {
        asked++;
        if (!got.equals(want)) {
            tell(what + " is " + got + ", due is " + want);
        }
    }

    /** The call throws this exception and no class below it, by a throw of the program's own, and changes nothing. */
    void refuses(String call, Class<? extends RuntimeException> want, TwoWires x, Call made) {
        long digest = x.digest();
        String all = Bench.all(x);
        throwsIt(call, want, made);
        if (x.digest() != digest || !Bench.all(x).equals(all)) {
            tell(call + " changed something although it threw");
        }
    }

    /**
     * The same of a call on an object that is made anew for it: it is compared with a like one that was not called,
     * in what is and comes, and in what undo() brings back and the text says. These use an object up.
     */
    void refuses(String call, Class<? extends RuntimeException> want, Supplier<TwoWires> like, Consumer<TwoWires> made) {
        TwoWires first = like.get();
        throwsIt(call, want, () -> made.accept(first));
        TwoWires second = like.get();
        thrownBy(() -> made.accept(second));
        if (!Bench.ahead(first).equals(Bench.ahead(like.get()))) {
            tell(call + " changed something although it threw");
        }
        if (!Bench.behind(second).equals(Bench.behind(like.get()))) {
            tell(call + " changed a saved state or the text although it threw");
        }
    }

    private void throwsIt(String call, Class<? extends RuntimeException> want, Call made) {
        asked++;
        RuntimeException got = thrownBy(made);
        if (got == null || got.getClass() != want) {
            tell(call + " threw " + got + ", due is " + want.getName());
        } else if (!thrownByProgram(got)) {
            tell(call + " let the machine throw " + got);
        }
    }

    static RuntimeException thrownBy(Call made) {
        try {
            made.make();
            return null;
        } catch (RuntimeException e) {
            return e;
        }
    }

    /** What the machine throws by itself for an index or a null has a message of its own form, or a frame of the library. */
    static boolean thrownByProgram(RuntimeException e) {
        StackTraceElement[] frames = e.getStackTrace();
        String text = e.getMessage() == null ? "" : e.getMessage();
        return frames.length > 0 && frames[0].getClassName().startsWith("TwoWires")
                && !text.startsWith("Index ") && !text.startsWith("Cannot ") && !text.startsWith("/ by");
    }

    void tell(String what) {
        wrong++;
        if (wrong <= 40) {
            System.out.println(test + ": " + part + what);
        }
    }

    boolean anyWrong() {
        return wrong != 0;
    }

    void end() {
        System.out.println(test + ": " + asked + " answers, " + wrong + " not as due");
        if (wrong != 0) {
            System.exit(1);
        }
    }
}
