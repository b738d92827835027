/** Helps the tests to set up a bus and to look at it. */
final class Bench {
    private Bench() {
    }

    static void type(TwoWires x, String text) {
        for (int i = 0; i < text.length(); i++) {
            x.append(text.charAt(i));
        }
    }

    static int carryOut(TwoWires x, String text) {
        x.clearText();
        type(x, text);
        return x.carryOut();
    }

    /** The levels of the latest slots, the oldest of them first. */
    static String levels(TwoWires x, int count) {
        return row(x, count, 0);
    }

    /** What the latest slots were, the oldest of them first. */
    static String kinds(TwoWires x, int count) {
        return row(x, count, 2);
    }

    /** The sets of contenders at the ends of the latest slots, the oldest of them first. */
    static String contenders(TwoWires x, int count) {
        return row(x, count, 1);
    }

    private static String row(TwoWires x, int count, int what) {
        StringBuilder out = new StringBuilder();
        for (int back = count - 1; back >= 0; back--) {
            out.append(x.log(back, what));
        }
        return out.toString();
    }

    static String memory(TwoWires x, int listener) {
        StringBuilder out = new StringBuilder();
        int size = x.listener(listener, 2);
        for (int place = 0; place < size; place++) {
            out.append(place == 0 ? "" : " ").append(x.memory(listener, place));
        }
        return out.toString();
    }

    /** Row of caller(c, 0) to caller(c, 8). */
    static String caller(TwoWires x, int c) {
        StringBuilder out = new StringBuilder();
        for (int what = 0; what <= 8; what++) {
            out.append(what == 0 ? "" : " ").append(x.caller(c, what));
        }
        return out.toString();
    }

    static String message(TwoWires x, int c, int place) {
        StringBuilder out = new StringBuilder();
        for (int what = 0; what <= 7; what++) {
            out.append(what == 0 ? "" : " ").append(x.message(c, place, what));
        }
        return out.toString();
    }

    static String listener(TwoWires x, int n) {
        StringBuilder out = new StringBuilder();
        for (int what = 0; what <= 5; what++) {
            out.append(what == 0 ? "" : " ").append(x.listener(n, what));
        }
        return out.toString();
    }

    static String values(TwoWires x) {
        StringBuilder out = new StringBuilder();
        for (int what = 0; what <= 9; what++) {
            out.append(what == 0 ? "" : " ").append(x.value(what));
        }
        return out.toString();
    }

    /** All that the calls of the section values tell. */
    static String all(TwoWires x) {
        StringBuilder out = new StringBuilder(values(x));
        for (int c = 0; c < x.value(1); c++) {
            out.append('\n').append(caller(x, c));
            for (int place = 0; place < x.caller(c, 0); place++) {
                out.append('\n').append(message(x, c, place));
            }
        }
        for (int n = 0; n < x.value(2); n++) {
            out.append('\n').append(listener(x, n)).append('\n').append(memory(x, n));
        }
        int kept = Math.min(64, x.value(0));
        out.append('\n').append(levels(x, kept)).append('\n').append(contenders(x, kept));
        return out.append('\n').append(kinds(x, kept)).toString();
    }

    /** Undoes until nothing is saved; answers how many states there were. */
    static int savedStates(TwoWires x) {
        int count = 0;
        while (count < 10 && Due.thrownBy(x::undo) == null) {
            count++;
        }
        return count;
    }
}
