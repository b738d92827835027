/** Helps the tests to set up a bus and to look at it. */
final class Bench {
    private Bench() {
    }

    static void type(TwoWires x, String text) {
        for (int i = 0; i < text.length(); i++) {
            x.append(text.charAt(i));
        }
    }

    static int carryOut(TwoWires x, String text) {
        x.clearText();
        type(x, text);
        return x.carryOut();
    }

    /** The levels of the latest slots, the oldest of them first. */
    static String levels(TwoWires x, int count) {
        return row(x, count, 0);
    }

    /** What the latest slots were, the oldest of them first. */
    static String kinds(TwoWires x, int count) {
        return row(x, count, 2);
    }

    /** The sets of contenders at the ends of the latest slots, the oldest of them first. */
    static String contenders(TwoWires x, int count) {
        return row(x, count, 1);
    }

    private static String row(TwoWires x, int count, int what) {
        StringBuilder out = new StringBuilder();
        for (int back = count - 1; back >= 0; back--) {
            out.append(x.log(back, what));
        }
        return out.toString();
    }

    static String memory(TwoWires x, int listener) {
        StringBuilder out = new StringBuilder();
        int size = x.listener(listener, 2);
        for (int place = 0; place < size; place++) {
            out.append(place == 0 ? "" : " ").append(x.memory(listener, place));
        }
        return out.toString();
    }

    /** Row of caller(c, 0) to caller(c, 8). */
    static String caller(TwoWires x, int c) {
        StringBuilder out = new StringBuilder();
        for (int what = 0; what <= 8; what++) {
            out.append(what == 0 ? "" : " ").append(x.caller(c, what));
        }
        return out.toString();
    }

    static String message(TwoWires x, int c, int place) {
        StringBuilder out = new StringBuilder();
        for (int what = 0; what <= 7; what++) {
            out.append(what == 0 ? "" : " ").append(x.message(c, place, what));
        }
        return out.toString();
    }

    static String listener(TwoWires x, int n) {
        StringBuilder out = new StringBuilder();
        for (int what = 0; what <= 5; what++) {
            out.append(what == 0 ? "" : " ").append(x.listener(n, what));
        }
        return out.toString();
    }

    static String values(TwoWires x) {
        StringBuilder out = new StringBuilder();
        for (int what = 0; what <= 9; what++) {
            out.append(what == 0 ? "" : " ").append(x.value(what));
        }
        return out.toString();
    }

    /** All that the calls of the section values tell. */
    static String all(TwoWires x) {
        StringBuilder out = new StringBuilder(values(x));
        for (int c = 0; c < x.value(1); c++) {
            out.append('\n').append(caller(x, c));
            for (int place = 0; place < x.caller(c, 0); place++) {
                out.append('\n').append(message(x, c, place));
            }
        }
        for (int n = 0; n < x.value(2); n++) {
            out.append('\n').append(listener(x, n)).append('\n').append(memory(x, n));
        }
        int kept = Math.min(64, x.value(0));
        out.append('\n').append(levels(x, kept)).append('\n').append(contenders(x, kept));
        return out.append('\n').append(kinds(x, kept)).toString();
    }

    /** All that is, and all that comes if slots pass; the object is used up by it. */
    static String ahead(TwoWires x) {
        StringBuilder out = new StringBuilder(all(x));
        out.append('\n').append(x.digest()).append(' ').append(x.winners()).append(' ').append(x.busy());
        for (int c = 0; c < x.value(1); c++) {
            out.append(' ').append(x.alone(c)).append(' ').append(x.delivers(c));
        }
        return out.append('\n').append(x.finish()).append('\n').append(all(x)).toString();
    }

    /** All that undo() brings back, and what the text says; the object is used up by it. */
    static String behind(TwoWires x) {
        StringBuilder out = new StringBuilder();
        for (int count = 0; count < 10 && Due.thrownBy(x::undo) == null; count++) {
            out.append(all(x)).append('\n').append(x.slotsToFinish()).append('\n');
        }
        out.append(x.carryOut()).append('\n').append(all(x)).append('\n').append(x.clearText());
        return out.toString();
    }

    /** Queues a write. */
    static void send(TwoWires x, int caller, int address, int... bytes) {
        long all = 0;
        for (int each : bytes) {
            all = 256 * all + each;
        }
        x.write(caller, address, bytes.length, all);
    }

    /** The caller 0 writes the bytes 1, 2, and so on, one by one, until all is done. */
    static void store(TwoWires x, int address, int bytes) {
        for (int i = 1; i <= bytes; i++) {
            send(x, 0, address, i);
            x.finish();
        }
    }

    /** A new object that has begun with so many callers. */
    static TwoWires with(int callers) {
        TwoWires x = new TwoWires();
        x.begin(callers);
        return x;
    }

    /**
     * In the middle of a byte, behind 72 slots, with all kinds of things to come: listener 0 (address 5) takes part,
     * listener 1 (address 9) is off; caller 0 has three messages and is the contender, caller 1 has four and has lost
     * once; four states are saved, and the text has an order.
     */
    static TwoWires midway() {
        TwoWires x = new TwoWires();
        x.addListener(5, 2);
        x.addListener(9, 0);
        x.turn(1, false);
        send(x, 0, 5, 1, 2, 3);
        x.finish();
        x.setLimit(3);
        send(x, 0, 5, 7, 8);
        x.read(0, 5, 4);
        send(x, 0, 9, 1);
        send(x, 1, 5, 7, 0x88);
        send(x, 1, 9, 4, 5, 6, 255);
        x.read(1, 5, 2);
        x.read(1, 127, 1);
        type(x, "s7;");
        x.pass(28);
        return x;
    }

    /** What the document says of the digest, told by the other calls; a text and saved states are not told by any. */
    static long digestByWords(TwoWires x, int textLength, int saved) {
        long h = 31 * 3803L + textLength;
        for (int what = 0; what <= 9; what++) {
            h = 31 * h + x.value(what);
        }
        for (int c = 0; c < x.value(1); c++) {
            for (int what = 0; what <= 8; what++) {
                h = 31 * h + x.caller(c, what);
            }
            for (int place = 0; place < x.caller(c, 0); place++) {
                for (int what = 0; what <= 7; what++) {
                    h = 31 * h + x.message(c, place, what);
                }
            }
        }
        for (int n = 0; n < x.value(2); n++) {
            for (int what = 0; what <= 5; what++) {
                h = 31 * h + x.listener(n, what);
            }
            for (int place = 0; place < x.listener(n, 2); place++) {
                h = 31 * h + x.memory(n, place);
            }
        }
        for (int back = 0; back < Math.min(64, x.value(0)); back++) {
            h = 31 * h + x.log(back, 0);
        }
        return 31 * (31 * h + x.slotsToFinish()) + saved;
    }

    /** The saved states, the number of which is the last value of the digest. */
    static int savedOf(TwoWires x, int textLength) {
        return (int) (x.digest() - digestByWords(x, textLength, 0));
    }

    /** Undoes until nothing is saved; answers how many states there were. */
    static int savedStates(TwoWires x) {
        int count = 0;
        while (count < 10 && Due.thrownBy(x::undo) == null) {
            count++;
        }
        return count;
    }
}
