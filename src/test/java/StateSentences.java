import java.util.LinkedHashMap;
import java.util.Map;
import java.util.function.Consumer;

/** 'Terms' on undo and exceptions, and promises 26 and 27. */
final class StateSentences {
    private static final Class<IllegalArgumentException> ARGUMENT = IllegalArgumentException.class;
    private static final Class<IllegalStateException> STATE = IllegalStateException.class;
    private static final Class<IndexOutOfBoundsException> INDEX = IndexOutOfBoundsException.class;

    private final Due due;

    private StateSentences(Due due) {
        this.due = due;
    }

    static void run(Sentences s) {
        StateSentences t = new StateSentences(s.due);
        t.terms(s);
        t.undo(s);
        t.digest(s);
    }

    private void terms(Sentences s) {
        s.section("Terms");
        s.saysNothing("Undo.");
        s.saysNothing("Exceptions.");
        s.holds("Each successful call of a method whose description says \"undoable\" saves the state from before the call,",
                this::undoableCallsSave);
        s.holds("even if the call changes nothing;", this::callsThatChangeNothingSave);
        s.holds("at most 4 states are saved,", () -> {
            TwoWires x = new TwoWires();
            for (int call = 1; call <= 9; call++) {
                x.setLimit(call);
                due.is("saved states", Bench.savedOf(x, 0), Math.min(call, 4));
            }
        });
        s.holds("and the oldest is dropped first.", () -> {
            for (int calls = 4; calls <= 9; calls++) {
                TwoWires x = new TwoWires();
                for (int limit = 1; limit <= calls; limit++) {
                    x.setLimit(limit);
                }
                for (int back = 1; back <= 4; back++) {
                    x.undo();
                    due.is("limit", x.value(3), calls == back ? 4 : calls - back);
                }
                due.refuses("a fifth undo()", STATE, x, x::undo);
            }
        });
        s.holds("The saved state contains everything except the text.", this::savedState);
        s.holds("A call that throws an exception changes nothing.", this::refusedCalls);
        s.holds("If several exceptions apply, the one that is listed first is thrown.", this::firstOfSeveral);
    }

    private static Map<String, Consumer<TwoWires>> undoableCalls() {
        Map<String, Consumer<TwoWires>> calls = new LinkedHashMap<>();
        calls.put("begin", x -> x.begin(3));
        calls.put("addListener", x -> x.addListener(77, 1));
        calls.put("turn", x -> x.turn(0, false));
        calls.put("empty", x -> x.empty(0));
        calls.put("setLimit", x -> x.setLimit(9));
        calls.put("write", x -> x.write(0, 5, 1, 9));
        calls.put("read", x -> x.read(0, 5, 1));
        calls.put("cancel", x -> x.cancel(1));
        calls.put("pass", x -> x.pass(9));
        calls.put("finish", TwoWires::finish);
        calls.put("carryOut", TwoWires::carryOut);
        return calls;
    }

    private void undoableCallsSave() {
        for (Map.Entry<String, Consumer<TwoWires>> call : undoableCalls().entrySet()) {
            for (int saved = 0; saved <= 4; saved++) {
                TwoWires x = Bench.midway();
                for (int i = 4; i > saved; i--) {
                    x.undo();
                }
                savesOne(call.getKey(), x, saved, call.getValue());
            }
        }
        callsThatSaveNothing();
    }

    private void savesOne(String name, TwoWires x, int saved, Consumer<TwoWires> call) {
        String before = Bench.all(x);
        int rest = x.slotsToFinish();
        due.is("saved states before " + name, Bench.savedOf(x, 3), saved);
        call.accept(x);
        due.is("saved states behind " + name, Bench.savedOf(x, 3), Math.min(saved + 1, 4));
        due.is("undo() of " + name, x.undo(), Math.min(saved + 1, 4) - 1);
        due.is("all behind undo() of " + name, Bench.all(x), before);
        due.is("slots to come behind undo() of " + name, x.slotsToFinish(), rest);
    }

    private void callsThatSaveNothing() {
        TwoWires y = Bench.midway();
        int saved = Bench.savedOf(y, 3);
        y.append('s');
        y.clearText();
        y.caller(0, 0);
        y.message(0, 0, 0);
        y.listener(0, 0);
        y.memory(0, 0);
        y.value(0);
        y.log(0, 0);
        y.slotsToFinish();
        y.alone(0);
        y.winners();
        y.delivers(0);
        y.busy();
        y.digest();
        due.is("saved states behind the calls that are not undoable", Bench.savedOf(y, 0), saved);
        due.is("undo() behind them", y.undo(), 3);
    }

    private void callsThatChangeNothingSave() {
        Map<String, Consumer<TwoWires>> calls = new LinkedHashMap<>();
        calls.put("begin", x -> x.begin(2));
        calls.put("empty", x -> x.empty(0));
        calls.put("setLimit", x -> x.setLimit(4));
        calls.put("finish", TwoWires::finish);
        calls.put("carryOut of no orders", TwoWires::carryOut);
        for (Map.Entry<String, Consumer<TwoWires>> call : calls.entrySet()) {
            TwoWires x = new TwoWires();
            if (call.getKey().equals("empty")) {
                x.addListener(1, 1);
            }
            String before = Bench.all(x);
            int saved = Bench.savedOf(x, 0);
            call.getValue().accept(x);
            due.is("all behind " + call.getKey(), Bench.all(x), before);
            due.is("saved states behind " + call.getKey(), Bench.savedOf(x, 0), saved + 1);
            due.is("undo() behind " + call.getKey(), x.undo(), saved);
        }
    }

    /** At each slot of some transfers, all that the face tells is back, and goes on as it would have gone on. */
    private void savedState() {
        for (int slot = 0; slot < 200; slot += 3) {
            TwoWires x = Bench.midway();
            TwoWires twin = Bench.midway();
            if (slot > 0) {
                x.pass(slot);
                twin.pass(slot);
            }
            x.append('s');
            x.begin(3);
            x.addListener(5, 9);
            Bench.carryOut(x, "r0:5*4;w1:5=9,9,9,9;s200;");
            x.undo();
            x.undo();
            due.is("states that remain at slot " + slot, x.undo(), 1);
            due.is("all at slot " + slot, Bench.all(x), Bench.all(twin));
            due.is("slots to come at slot " + slot, x.finish(), twin.finish());
            due.is("all that comes at slot " + slot, Bench.all(x), Bench.all(twin));
            due.is("the text is not undone", x.clearText(), 25);
        }
        TwoWires y = new TwoWires();
        y.pass(1);
        Bench.type(y, "s1;");
        y.undo();
        due.is("the text that came behind the saved state stays", y.clearText(), 3);
        Bench.type(y, "s1;");
        y.pass(1);
        y.clearText();
        y.undo();
        due.is("the text that was in the saved state does not come back", y.clearText(), 0);
    }

    private void refusedCalls() {
        Map<String, Consumer<TwoWires>> calls = new LinkedHashMap<>();
        calls.put("begin(0)", x -> x.begin(0));
        calls.put("addListener(1, 10)", x -> x.addListener(1, 10));
        calls.put("addListener(5, 1)", x -> x.addListener(5, 1));
        calls.put("turn(2, true)", x -> x.turn(2, true));
        calls.put("turn(0, true)", x -> x.turn(0, true));
        calls.put("empty(2)", x -> x.empty(2));
        calls.put("setLimit(10)", x -> x.setLimit(10));
        calls.put("write(0, 5, 1, 256)", x -> x.write(0, 5, 1, 256));
        calls.put("write(1, 5, 1, 0)", x -> x.write(1, 5, 1, 0));
        calls.put("read(0, 5, 5)", x -> x.read(0, 5, 5));
        calls.put("read(1, 5, 1)", x -> x.read(1, 5, 1));
        calls.put("cancel(2)", x -> x.cancel(2));
        calls.put("pass(201)", x -> x.pass(201));
        calls.put("append(128)", x -> x.append(128));
        calls.put("caller(0, 9)", x -> x.caller(0, 9));
        calls.put("log(64, 0)", x -> x.log(64, 0));
        calls.put("delivers(2)", x -> x.delivers(2));
        String ahead = Bench.ahead(Bench.midway());
        String behind = Bench.behind(Bench.midway());
        for (Map.Entry<String, Consumer<TwoWires>> call : calls.entrySet()) {
            TwoWires x = Bench.midway();
            TwoWires y = Bench.midway();
            for (int times = 0; times < 5; times++) {
                due.holds("that " + call.getKey() + " throws", Due.thrownBy(() -> call.getValue().accept(x)) != null);
                Due.thrownBy(() -> call.getValue().accept(y));
            }
            due.is("what is and comes behind " + call.getKey(), Bench.ahead(x), ahead);
            due.is("what was saved, and the text, behind " + call.getKey(), Bench.behind(y), behind);
        }
        due.refuses("undo() with a text", STATE, () -> withTextAlone(), TwoWires::undo);
        due.refuses("cancel(0) of a contender", STATE, () -> contending(), x -> x.cancel(0));
    }

    private static TwoWires withTextAlone() {
        TwoWires x = new TwoWires();
        Bench.type(x, "s1;");
        return x;
    }

    private static TwoWires contending() {
        TwoWires x = withTextAlone();
        x.read(0, 9, 1);
        x.pass(4);
        return x;
    }

    private static TwoWires sixWithFullQueue() {
        TwoWires x = TermSentences.withListeners(6);
        for (int i = 0; i < 4; i++) {
            x.read(0, 9, 1);
        }
        Bench.type(x, "s".repeat(100));
        return x;
    }

    private void firstOfSeveral() {
        both("addListener, hold and 6 listeners", ARGUMENT, x -> x.addListener(1, 10));
        both("addListener, address and 6 listeners", ARGUMENT, x -> x.addListener(128, 1));
        both("addListener, hold and an address that is used", ARGUMENT, x -> x.addListener(10, -1));
        both("turn, no listener, on", INDEX, x -> x.turn(6, true));
        both("turn, no listener, off", INDEX, x -> x.turn(-1, false));
        both("write, caller and address", INDEX, x -> x.write(2, 128, 1, 0));
        both("write, caller and count", INDEX, x -> x.write(2, 1, 0, 0));
        both("write, caller and bytes", INDEX, x -> x.write(-1, 1, 1, 256));
        both("write, address and a full queue", ARGUMENT, x -> x.write(0, -1, 1, 0));
        both("write, count and a full queue", ARGUMENT, x -> x.write(0, 1, 5, 0));
        both("write, bytes and a full queue", ARGUMENT, x -> x.write(0, 1, 1, 256));
        both("write, bytes below 0 and a full queue", ARGUMENT, x -> x.write(0, 1, 4, -1));
        both("read, caller and address", INDEX, x -> x.read(2, -1, 1));
        both("read, caller and count", INDEX, x -> x.read(-1, 1, 5));
        both("read, address and a full queue", ARGUMENT, x -> x.read(0, 128, 1));
        both("read, count and a full queue", ARGUMENT, x -> x.read(0, 1, 0));
        both("caller, caller and what", INDEX, x -> x.caller(2, 9));
        both("caller, caller and what below 0", INDEX, x -> x.caller(-1, -1));
        both("message, caller and what", INDEX, x -> x.message(2, 0, 8));
        both("message, place and what", INDEX, x -> x.message(0, 4, 8));
        both("message, place and what below 0", INDEX, x -> x.message(0, -1, -1));
        both("message, no message and what", INDEX, x -> x.message(1, 0, 8));
        both("listener, listener and what", INDEX, x -> x.listener(6, 6));
        both("listener, listener and what below 0", INDEX, x -> x.listener(-1, -1));
        both("log, back and what", INDEX, x -> x.log(0, 3));
        both("log, back and what below 0", INDEX, x -> x.log(-1, -1));
        both("append, value and 100 bytes", ARGUMENT, x -> x.append(128));
        both("append, value below 0 and 100 bytes", ARGUMENT, x -> x.append(-1));
    }

    private void both(String call, Class<? extends RuntimeException> first, Consumer<TwoWires> made) {
        due.refuses(call, first, StateSentences::sixWithFullQueue, made);
    }

    private void undo(Sentences s) {
        s.section("Promise 26: undo");
        s.holds("Restores the most recently saved state and removes it from the saved states.", () -> {
            TwoWires x = new TwoWires();
            x.setLimit(5);
            x.setLimit(6);
            x.setLimit(7);
            x.undo();
            due.is("limit", x.value(3), 6);
            x.undo();
            due.is("limit", x.value(3), 5);
            x.setLimit(8);
            x.undo();
            due.is("limit behind one that was saved in between", x.value(3), 5);
            x.undo();
            due.is("limit", x.value(3), 4);
            due.is("saved states", Bench.savedOf(x, 0), 0);
        });
        s.holds("Returns the number of saved states that remain.", () -> {
            for (int calls = 1; calls <= 6; calls++) {
                TwoWires x = new TwoWires();
                for (int i = 0; i < calls; i++) {
                    x.pass(1);
                }
                for (int left = Math.min(calls, 4) - 1; left >= 0; left--) {
                    due.is("states that remain", x.undo(), left);
                    due.is("saved states", Bench.savedOf(x, 0), left);
                }
                due.is("slots", x.value(0), Math.max(0, calls - 4));
            }
        });
        s.holds("Throws IllegalStateException if there is no saved state", () -> {
            due.refuses("at first", STATE, TwoWires::new, TwoWires::undo);
            due.refuses("behind a text", STATE, StateSentences::withTextAlone, TwoWires::undo);
            due.refuses("behind one that was undone", STATE, () -> undoneTimes(1, 1), TwoWires::undo);
            due.refuses("behind four that were undone", STATE, () -> undoneTimes(4, 4), TwoWires::undo);
            due.refuses("behind five, four of which were undone", STATE, () -> undoneTimes(5, 4), TwoWires::undo);
            due.is("behind four, three of which were undone", undoneTimes(4, 3).undo(), 0);
        });
    }

    private static TwoWires undoneTimes(int calls, int times) {
        TwoWires x = new TwoWires();
        for (int i = 0; i < calls; i++) {
            x.pass(1);
        }
        for (int i = 0; i < times; i++) {
            x.undo();
        }
        return x;
    }

    private void digest(Sentences s) {
        s.section("Promise 27: digest");
        s.holds("Returns a hash of the state.", () -> {
            TwoWires x = Bench.midway();
            String before = Bench.all(x);
            long digest = x.digest();
            due.is("again", x.digest(), digest);
            due.is("all", Bench.all(x), before);
            due.is("of a like one", Bench.midway().digest(), digest);
        });
        s.holds("Start with h = 3803 and, for each of the following values v, set h = 31 * h + v:", () -> {
            int[] values = {0, 0, 1, 0, 4, 1, 0, 0, 0, -1, 1, 0, 0, 0, 0, 0, 0, 0, -1, 0, 0, 1};
            long h = 3803;
            for (int v : values) {
                h = 31 * h + v;
            }
            due.is("of a bus that begins with one caller", Bench.with(1).digest(), h);
        });
        s.holds("the length of the text;", () -> {
            for (int length : new int[] {0, 1, 99, 100}) {
                TwoWires x = new TwoWires();
                Bench.type(x, "w".repeat(length));
                due.is("with " + length + " bytes", x.digest(), Bench.digestByWords(x, length, 0));
            }
        });
        s.holds("value() for 0 to 9;", () -> byWords(Bench.midway(), 3, 4));
        s.holds("for each caller the values of caller() for what = 0 to 8, then for each message of its queue the values of"
                + " message() for what = 0 to 7;", () -> {
                    for (int messages = 0; messages <= 4; messages++) {
                        TwoWires x = new TwoWires();
                        for (int i = 0; i < messages; i++) {
                            x.write(1, 100 + i, 1 + i % 4, 250 + i);
                        }
                        byWords(x, 0, messages);
                    }
                });
        s.holds("for each listener the values of listener() for what = 0 to 5, then the bytes of its memory;", () -> {
            TwoWires x = TermSentences.withListeners(6);
            byWords(x, 0, 4);
            Bench.store(x, 12, 16);
            Bench.store(x, 15, 1);
            x.read(1, 12, 3);
            x.finish();
            byWords(x, 0, 4);
        });
        s.holds("for each kept slot, from the latest one on, log() for what = 0;", () -> {
            for (int slots : new int[] {1, 2, 63, 64, 65, 128, 200}) {
                TwoWires x = new TwoWires();
                x.write(0, 85, 1, 0);
                x.read(0, 44, 1);
                x.pass(slots);
                byWords(x, 0, 3);
            }
        });
        s.holds("slotsToFinish();", () -> {
            TwoWires x = new TwoWires();
            x.read(0, 9, 1);
            x.pass(3);
            byWords(x, 0, 2);
        });
        s.holds("the number of saved states.", () -> {
            TwoWires x = new TwoWires();
            for (int saved = 0; saved <= 6; saved++) {
                byWords(x, 0, Math.min(saved, 4));
                x.setLimit(4);
            }
            x.undo();
            byWords(x, 0, 3);
        });
        s.holds("Returns the hash, with the overflow of long arithmetic ignored.", () -> {
            TwoWires x = Bench.midway();
            for (int i = 0; i < 50; i++) {
                byWords(x, 3, 4);
                x.pass(4);
            }
        });
    }

    private void byWords(TwoWires x, int textLength, int saved) {
        due.is("digest()", x.digest(), Bench.digestByWords(x, textLength, saved));
    }
}
