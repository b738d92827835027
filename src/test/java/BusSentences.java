import java.util.function.Supplier;

/** Promises 1 to 11: a new object, and the calls that change the bus. */
final class BusSentences {
    private static final Class<IllegalArgumentException> ARGUMENT = IllegalArgumentException.class;
    private static final Class<IllegalStateException> STATE = IllegalStateException.class;
    private static final Class<IndexOutOfBoundsException> INDEX = IndexOutOfBoundsException.class;
    private static final int[] FAR = {Integer.MIN_VALUE, Integer.MAX_VALUE};

    private final Due due;

    private BusSentences(Due due) {
        this.due = due;
    }

    static void run(Sentences s) {
        BusSentences t = new BusSentences(s.due);
        t.newObject(s);
        t.begin(s);
        t.addListener(s);
        t.turn(s);
        t.empty(s);
        t.setLimit(s);
        t.write(s);
        t.read(s);
        t.cancel(s);
        t.pass(s);
        t.finish(s);
    }

    /** The call saves one state, which undo() brings back. */
    private void undone(TwoWires x, Due.Call made) {
        String before = Bench.all(x);
        int saved = Bench.savedOf(x, 0);
        made.make();
        due.is("saved states", Bench.savedOf(x, 0), saved + 1);
        due.is("states that remain", x.undo(), saved);
        due.is("what undo() brings back", Bench.all(x), before);
    }

    private void newObject(Sentences s) {
        s.section("Promise 1: A new object");
        s.holds("Creates a bus with 2 callers, without listeners, idle.", () -> {
            TwoWires x = new TwoWires();
            due.is("all", Bench.all(x), "0 2 0 4 1 0 0 0 -1 1\n0 0 0 0 0 0 0 -1 0\n0 0 0 0 0 0 0 -1 0\n\n\n");
            due.is("length of the text", x.clearText(), 0);
            due.refuses("caller 2", INDEX, TwoWires::new, y -> y.caller(2, 0));
            due.refuses("listener 0", INDEX, TwoWires::new, y -> y.listener(0, 0));
            due.refuses("a slot", INDEX, TwoWires::new, y -> y.log(0, 0));
            due.refuses("a saved state", STATE, TwoWires::new, y -> y.undo());
        });
    }

    private void begin(Sentences s) {
        s.section("Promise 2: begin");
        s.holds("Begins anew with other callers: all else but the text is as at first.", this::beginsAnew);
        s.holds("Undoable.", () -> {
            TwoWires x = new TwoWires();
            undone(x, () -> x.begin(2));
            undone(x, () -> x.begin(3));
        });
        s.holds("callers: 1 to 3", () -> {
            for (int callers = 1; callers <= 3; callers++) {
                TwoWires x = Bench.midway();
                x.begin(callers);
                due.is("callers", x.value(1), callers);
                due.is("the last one", x.caller(callers - 1, 0), 0);
            }
        });
        s.holds("Returns the slots that had passed.", () -> {
            TwoWires x = new TwoWires();
            due.is("none", x.begin(1), 0);
            x.pass(1);
            due.is("one", x.begin(1), 1);
            x.pass(200);
            x.pass(5);
            due.is("many", x.begin(1), 205);
            due.is("none again", x.begin(1), 0);
        });
        s.holds("Throws IllegalArgumentException if callers is out of range", () -> {
            for (int wrong : new int[] {0, 4, -1, FAR[0], FAR[1]}) {
                due.refuses("begin(" + wrong + ")", ARGUMENT, TwoWires::new, x -> x.begin(wrong));
                due.refuses("begin(" + wrong + ") midway", ARGUMENT, Bench::midway, x -> x.begin(wrong));
            }
        });
    }

    private void beginsAnew() {
        for (int callers = 1; callers <= 3; callers++) {
            TwoWires x = Bench.midway();
            x.begin(callers);
            String rows = "\n0 0 0 0 0 0 0 -1 0".repeat(callers);
            due.is("all", Bench.all(x), "0 " + callers + " 0 4 1 0 0 0 -1 1" + rows + "\n\n\n");
            TwoWires anew = Bench.with(callers);
            due.is("the text stays", x.carryOut(), 1);
            due.is("slots of the text", x.value(0), 7);
            x.begin(callers);
            x.addListener(6, 3);
            anew.addListener(6, 3);
            Bench.send(x, 0, 6, 1, 2);
            Bench.send(anew, 0, 6, 1, 2);
            x.finish();
            anew.finish();
            due.is("all that comes", Bench.all(x), Bench.all(anew));
        }
        TwoWires y = Bench.midway();
        y.begin(3);
        due.is("nothing to do", y.finish(), 0);
        y.undo();
        due.is("saved states of before stay, the oldest is dropped", y.undo(), 2);
        due.refuses("a slot of before", INDEX, () -> begun(), x -> x.log(0, 0));
        due.refuses("a message of before", INDEX, () -> begun(), x -> x.message(0, 0, 0));
        due.refuses("a listener of before", INDEX, () -> begun(), x -> x.listener(0, 0));
    }

    private static TwoWires begun() {
        TwoWires x = Bench.midway();
        x.begin(2);
        return x;
    }

    private void addListener(Sentences s) {
        s.section("Promise 3: addListener");
        s.holds("Adds a listener.", () -> {
            TwoWires x = TermSentences.withListeners(2);
            x.addListener(0, 9);
            due.is("listeners", x.value(2), 3);
            due.is("the new one", Bench.listener(x, 2), "0 9 0 0 1 0");
            due.is("the one before it", Bench.listener(x, 1), "11 1 0 0 1 0");
            x.undo();
            x.addListener(1, 0);
            due.is("the number is given again", Bench.listener(x, 2), "1 0 0 0 1 0");
        });
        s.holds("Undoable.", () -> {
            TwoWires x = new TwoWires();
            undone(x, () -> x.addListener(1, 0));
        });
        s.holds("address: 0 to 127", () -> {
            TwoWires x = new TwoWires();
            due.is("the lowest", x.addListener(0, 0), 0);
            due.is("the highest", x.addListener(127, 0), 1);
            due.is("address of the first", x.listener(0, 0), 0);
            due.is("address of the second", x.listener(1, 0), 127);
        });
        s.holds("hold: 0 to 9", () -> {
            TwoWires x = new TwoWires();
            due.is("the lowest", x.addListener(1, 0), 0);
            due.is("the highest", x.addListener(2, 9), 1);
            due.is("hold of the first", x.listener(0, 1), 0);
            due.is("hold of the second", x.listener(1, 1), 9);
        });
        s.holds("Returns its number.", () -> {
            TwoWires x = new TwoWires();
            for (int n = 0; n < 6; n++) {
                due.is("number", x.addListener(20 - n, 0), n);
            }
            x.undo();
            due.is("number behind undo()", x.addListener(3, 0), 5);
        });
        s.holds("Throws IllegalArgumentException if an argument is out of range", () -> {
            for (int wrong : new int[] {-1, 128, FAR[0], FAR[1]}) {
                due.refuses("address " + wrong, ARGUMENT, Bench::midway, x -> x.addListener(wrong, 0));
            }
            for (int wrong : new int[] {-1, 10, FAR[0], FAR[1]}) {
                due.refuses("hold " + wrong, ARGUMENT, Bench::midway, x -> x.addListener(1, wrong));
            }
        });
        s.holds("Throws IllegalStateException if there are 6 listeners,", () -> {
            due.is("with 5 there is room", TermSentences.withListeners(5).addListener(99, 0), 5);
            due.refuses("with 6", STATE, () -> TermSentences.withListeners(6), x -> x.addListener(99, 0));
        });
        s.holds("or one has this address", () -> {
            due.refuses("of one that is on", STATE, Bench::midway, x -> x.addListener(5, 0));
            due.refuses("of one that is off", STATE, Bench::midway, x -> x.addListener(9, 0));
            due.is("of none", Bench.midway().addListener(6, 0), 2);
        });
    }

    private void turn(Sentences s) {
        s.section("Promise 4: turn");
        s.holds("Switches a listener on or off.", () -> {
            TwoWires x = TermSentences.withListeners(2);
            x.turn(1, false);
            due.is("off", x.listener(1, 4), 0);
            due.is("the other one", x.listener(0, 4), 1);
            x.turn(1, true);
            due.is("on", x.listener(1, 4), 1);
        });
        s.holds("Undoable.", () -> {
            TwoWires x = TermSentences.withListeners(1);
            undone(x, () -> x.turn(0, false));
        });
        s.holds("listener: number of a listener", () -> {
            due.is("the first of 6", TermSentences.withListeners(6).turn(0, false), 5);
            due.is("the last of 6", TermSentences.withListeners(6).turn(5, false), 5);
        });
        s.holds("on: whether it is on then", () -> {
            TwoWires x = Bench.midway();
            x.turn(1, true);
            due.is("true", x.listener(1, 4), 1);
            x.turn(1, false);
            due.is("false", x.listener(1, 4), 0);
        });
        s.holds("Returns the listeners that are on then.", () -> {
            TwoWires x = TermSentences.withListeners(6);
            for (int n = 0; n < 6; n++) {
                due.is("one less", x.turn(n, false), 5 - n);
            }
            for (int n = 0; n < 6; n++) {
                due.is("one more", x.turn(n, true), n + 1);
            }
        });
        s.holds("Throws IndexOutOfBoundsException if there is no such listener",
                () -> noSuchListener((x, n) -> x.turn(n, true)));
        s.holds("Throws IllegalStateException if it is so already", () -> {
            due.refuses("on", STATE, Bench::midway, x -> x.turn(0, true));
            due.refuses("off", STATE, Bench::midway, x -> x.turn(1, false));
        });
    }

    /** A call with the number of a caller or a listener. */
    interface Numbered {
        void make(TwoWires x, int number);
    }

    private void noSuchListener(Numbered made) {
        for (int wrong : new int[] {-1, 2, 6, FAR[0], FAR[1]}) {
            due.refuses("listener " + wrong, INDEX, Bench::midway, x -> made.make(x, wrong));
        }
        due.refuses("listener 0 of none", INDEX, TwoWires::new, x -> made.make(x, 0));
        due.refuses("listener 6 of 6", INDEX, () -> TermSentences.withListeners(6), x -> made.make(x, 6));
    }

    private void noSuchCaller(Numbered made) {
        for (int wrong : new int[] {-1, 2, 3, FAR[0], FAR[1]}) {
            due.refuses("caller " + wrong, INDEX, Bench::midway, x -> made.make(x, wrong));
        }
        for (int callers = 1; callers <= 3; callers++) {
            int count = callers;
            due.refuses("caller " + count + " of " + count, INDEX, () -> Bench.with(count), x -> made.make(x, count));
        }
    }

    private void empty(Sentences s) {
        s.section("Promise 5: empty");
        s.holds("Empties the memory of a listener;", () -> {
            TwoWires x = Bench.midway();
            x.empty(0);
            due.is("bytes", x.listener(0, 2), 0);
            due.refuses("a byte", INDEX, x, () -> x.memory(0, 0));
            x.finish();
            due.is("what is stored then", Bench.memory(x, 0), "8 7 136");
            TwoWires y = new TwoWires();
            y.addListener(5, 0);
            y.addListener(6, 0);
            Bench.store(y, 5, 16);
            Bench.store(y, 6, 2);
            y.empty(0);
            due.is("the other one's bytes", y.listener(1, 2), 2);
            Bench.store(y, 5, 16);
            due.is("16 bytes have room again", y.listener(0, 2), 16);
        });
        s.holds("its pointer is 0 then.", () -> {
            TwoWires x = new TwoWires();
            x.addListener(5, 0);
            Bench.store(x, 5, 3);
            x.read(0, 5, 2);
            x.finish();
            due.is("the pointer before", x.listener(0, 3), 2);
            x.empty(0);
            due.is("the pointer", x.listener(0, 3), 0);
            Bench.store(x, 5, 3);
            due.is("the pointer behind three bytes", x.listener(0, 3), 0);
        });
        s.holds("Undoable.", () -> {
            TwoWires x = TermSentences.withListeners(1);
            undone(x, () -> x.empty(0));
            Bench.store(x, 10, 3);
            x.empty(0);
            Bench.store(x, 10, 1);
            x.undo();
            x.undo();
            x.undo();
            due.is("bytes that are back", Bench.memory(x, 0), "1 2 3");
        });
        s.holds("listener: number of a listener", () -> {
            TwoWires x = TermSentences.withListeners(6);
            Bench.store(x, 10, 1);
            Bench.store(x, 15, 2);
            due.is("the first of 6", x.empty(0), 1);
            due.is("the last of 6", x.empty(5), 2);
        });
        s.holds("Returns the bytes that it had.", () -> {
            TwoWires x = TermSentences.withListeners(1);
            for (int had : new int[] {0, 1, 15, 16}) {
                Bench.store(x, 10, had);
                due.is("bytes", x.empty(0), had);
                due.is("then none", x.empty(0), 0);
            }
        });
        s.holds("Throws IndexOutOfBoundsException if there is no such listener", () -> noSuchListener(TwoWires::empty));
    }

    private void setLimit(Sentences s) {
        s.section("Promise 6: setLimit");
        s.holds("Sets the limit.", () -> {
            TwoWires x = new TwoWires();
            x.setLimit(7);
            due.is("limit", x.value(3), 7);
            TwoWires y = new TwoWires();
            y.setLimit(1);
            y.read(0, 9, 1);
            y.write(1, 9, 1, 0);
            y.pass(9);
            due.is("LOST with the limit 1", y.caller(0, 4), 1);
        });
        s.holds("Undoable.", () -> {
            TwoWires x = new TwoWires();
            undone(x, () -> x.setLimit(9));
            undone(x, () -> x.setLimit(4));
        });
        s.holds("limit: 1 to 9", () -> {
            TwoWires x = new TwoWires();
            x.setLimit(1);
            due.is("the lowest", x.value(3), 1);
            x.setLimit(9);
            due.is("the highest", x.value(3), 9);
        });
        s.holds("Returns the previous limit.", () -> {
            TwoWires x = new TwoWires();
            due.is("the first one", x.setLimit(9), 4);
            due.is("the one before", x.setLimit(1), 9);
            due.is("the same", x.setLimit(1), 1);
        });
        s.holds("Throws IllegalArgumentException if limit is out of range", () -> {
            for (int wrong : new int[] {0, 10, -1, FAR[0], FAR[1]}) {
                due.refuses("setLimit(" + wrong + ")", ARGUMENT, Bench::midway, x -> x.setLimit(wrong));
            }
        });
    }

    /** A call that queues a message with this address and count. */
    interface Queuing {
        int make(TwoWires x, int caller, int address, int count);
    }

    private void write(Sentences s) {
        s.section("Promise 7: write");
        s.holds("Queues a write.", () -> {
            TwoWires x = new TwoWires();
            x.write(1, 9, 3, 0x010203);
            due.is("the message", Bench.message(x, 1, 0), "9 0 3 0 1 2 3 -1");
            due.is("no slot passes", x.value(0), 0);
        });
        queues(s, (x, c, address, count) -> x.write(c, address, count, 0));
        s.holds("bytes: the bytes, as the number that they make if the first one is the highest,", () -> {
            TwoWires x = new TwoWires();
            x.addListener(5, 0);
            x.write(0, 5, 4, 0x01020304L);
            x.write(0, 5, 2, 0x0506L);
            x.finish();
            due.is("the bytes as they are stored", Bench.memory(x, 0), "1 2 3 4 5 6");
        });
        s.holds("0 to 256 to the power of count, minus 1", this::rangeOfBytes);
    }

    private void rangeOfBytes() {
        long power = 1;
        for (int count = 1; count <= 4; count++) {
            power *= 256;
            int n = count;
            long most = power - 1;
            TwoWires x = new TwoWires();
            x.write(0, 1, n, most);
            x.write(0, 1, n, 0);
            for (int place = 0; place < 4; place++) {
                due.is("the highest", x.message(0, 0, 4 + place), place < n ? 255 : -1);
                due.is("the lowest", x.message(0, 1, 4 + place), place < n ? 0 : -1);
            }
            for (long wrong : new long[] {-1, most + 1, -most - 1, 1L << 32, Long.MAX_VALUE, Long.MIN_VALUE}) {
                due.refuses(n + " bytes as " + wrong, ARGUMENT, Bench::midway, y -> y.write(0, 1, n, wrong));
            }
        }
    }

    /** What a write and a read have in common. */
    private void queues(Sentences s, Queuing made) {
        s.holds("Undoable.", () -> {
            TwoWires x = new TwoWires();
            undone(x, () -> made.make(x, 0, 9, 2));
        });
        s.holds("caller: number of a caller", () -> {
            for (int c = 0; c < 3; c++) {
                TwoWires x = Bench.with(3);
                made.make(x, c, 9, 1);
                due.is("queues", x.caller(0, 0) + " " + x.caller(1, 0) + " " + x.caller(2, 0),
                        c == 0 ? "1 0 0" : c == 1 ? "0 1 0" : "0 0 1");
            }
        });
        s.holds("address: 0 to 127", () -> {
            TwoWires x = new TwoWires();
            due.is("the lowest", made.make(x, 0, 0, 1), 1);
            due.is("the highest", made.make(x, 0, 127, 1), 2);
            due.is("addresses", x.message(0, 0, 0) + " " + x.message(0, 1, 0), "0 127");
        });
        s.holds("count: the number of bytes, 1 to 4", () -> {
            TwoWires x = new TwoWires();
            due.is("the lowest", made.make(x, 0, 9, 1), 1);
            due.is("the highest", made.make(x, 0, 9, 4), 2);
            due.is("counts", x.message(0, 0, 2) + " " + x.message(0, 1, 2), "1 4");
        });
        s.holds("Returns the messages in the queue then.", () -> {
            TwoWires x = new TwoWires();
            for (int messages = 1; messages <= 4; messages++) {
                due.is("messages", made.make(x, 1, 9, 1), messages);
            }
            x.pass(10);
            due.is("messages behind one that ended", made.make(x, 1, 9, 1), 4);
        });
        s.holds("Throws IndexOutOfBoundsException if there is no such caller",
                () -> noSuchCaller((x, c) -> made.make(x, c, 9, 1)));
        s.holds("Throws IllegalArgumentException if another argument is out of range", () -> {
            for (int wrong : new int[] {-1, 128, FAR[0], FAR[1]}) {
                due.refuses("address " + wrong, ARGUMENT, Bench::midway, x -> made.make(x, 0, wrong, 1));
            }
            for (int wrong : new int[] {0, 5, -1, FAR[0], FAR[1]}) {
                due.refuses("count " + wrong, ARGUMENT, Bench::midway, x -> made.make(x, 0, 9, wrong));
            }
        });
        s.holds("Throws IllegalStateException if its queue has 4 messages", () -> {
            due.refuses("a fifth message", STATE, Bench::midway, x -> made.make(x, 1, 9, 1));
            due.is("a fourth message", made.make(Bench.midway(), 0, 9, 1), 4);
        });
    }

    private void read(Sentences s) {
        s.section("Promise 8: read");
        s.holds("Queues a read.", () -> {
            TwoWires x = new TwoWires();
            x.read(1, 9, 3);
            due.is("the message", Bench.message(x, 1, 0), "9 1 3 0 -1 -1 -1 -1");
            due.is("no slot passes", x.value(0), 0);
        });
        queues(s, TwoWires::read);
    }

    private void cancel(Sentences s) {
        s.section("Promise 9: cancel");
        s.holds("Takes the last message of a queue back.", () -> {
            TwoWires x = new TwoWires();
            x.read(0, 1, 1);
            Bench.send(x, 0, 2, 7);
            x.read(0, 3, 1);
            x.read(0, 4, 1);
            x.cancel(0);
            x.cancel(0);
            due.is("messages", x.caller(0, 0), 2);
            due.is("the last one now", Bench.message(x, 0, 1), "2 0 1 0 7 -1 -1 -1");
            x.read(0, 5, 2);
            due.is("a new one behind it", Bench.message(x, 0, 2), "5 1 2 0 -1 -1 -1 -1");
            x.finish();
            due.is("it is sent no more, and counted nowhere", Bench.caller(x, 0), "0 0 3 0 0 0 0 -1 0");
        });
        s.holds("Undoable.", () -> {
            TwoWires x = new TwoWires();
            x.read(0, 1, 1);
            undone(x, () -> x.cancel(0));
        });
        s.holds("caller: number of a caller", () -> {
            TwoWires x = Bench.with(3);
            x.read(0, 1, 1);
            x.read(2, 2, 1);
            due.is("the last caller's", x.cancel(2), 2);
            due.is("the first caller's", x.cancel(0), 1);
        });
        s.holds("Returns its address.", () -> {
            TwoWires x = new TwoWires();
            for (int address : new int[] {0, 3, 126, 127}) {
                x.read(1, address, 1);
            }
            due.is("the fourth", x.cancel(1), 127);
            due.is("the third", x.cancel(1), 126);
            due.is("the second", x.cancel(1), 3);
            due.is("the first", x.cancel(1), 0);
        });
        s.holds("Throws IndexOutOfBoundsException if there is no such caller", () -> noSuchCaller(TwoWires::cancel));
        s.holds("Throws IllegalStateException if the queue is empty,", () -> {
            due.refuses("an empty queue", STATE, TwoWires::new, x -> x.cancel(0));
            due.refuses("the other queue is not", STATE, () -> withReads(0, 1, 0), x -> x.cancel(0));
        });
        s.holds("or it has one message and the caller is a contender", this::cancelOfContender);
    }

    /** Reads of caller 0 and of caller 1 from address 9, and slots that have passed. */
    private static TwoWires withReads(int first, int second, int slots) {
        TwoWires x = new TwoWires();
        for (int i = 0; i < first; i++) {
            x.read(0, 9, 1);
        }
        for (int i = 0; i < second; i++) {
            x.read(1, 9, 1);
        }
        if (slots > 0) {
            x.pass(slots);
        }
        return x;
    }

    private void cancelOfContender() {
        due.is("one message, the bus is idle", withReads(1, 0, 0).cancel(0), 9);
        for (int slots = 1; slots <= 9; slots++) {
            int passed = slots;
            Supplier<TwoWires> contending = () -> withReads(1, 2, passed);
            due.refuses("one message, contender", STATE, contending, x -> x.cancel(0));
            due.is("two messages, contender", contending.get().cancel(1), 9);
            TwoWires x = contending.get();
            x.cancel(1);
            due.refuses("one of two messages is left", STATE, x, () -> x.cancel(1));
        }
        TwoWires y = new TwoWires();
        y.read(0, 9, 1);
        y.read(1, 8, 1);
        y.pass(9);
        due.is("one message, it has lost", y.cancel(0), 9);
        due.refuses("one message, it has not", STATE, y, () -> y.cancel(1));
        TwoWires z = withReads(1, 0, 10);
        z.read(0, 7, 1);
        due.is("one message, before the stop slot", z.cancel(0), 7);
    }

    private void pass(Sentences s) {
        s.section("Promise 10: pass");
        s.holds("Lets slots pass.", () -> {
            TwoWires x = new TwoWires();
            x.write(0, 5, 1, 0);
            x.pass(1);
            due.is("one", Bench.kinds(x, 1), "1");
            x.pass(3);
            due.is("three more", Bench.kinds(x, 4), "1222");
            x.pass(9);
            due.is("nine more", Bench.kinds(x, 13), "1222222223700");
        });
        s.holds("Undoable.", () -> {
            TwoWires x = new TwoWires();
            undone(x, () -> x.pass(1));
            undone(x, () -> x.pass(200));
        });
        s.holds("slots: 1 to 200", () -> {
            due.is("the lowest", new TwoWires().pass(1), 1);
            due.is("the highest", new TwoWires().pass(200), 200);
        });
        s.holds("Returns the present slot then.", () -> {
            TwoWires x = Bench.midway();
            due.is("the present slot", x.pass(1), 73);
            due.is("the present slot", x.value(0), 73);
            due.is("the present slot", x.pass(199), 272);
        });
        s.holds("Throws IllegalArgumentException if slots is out of range", () -> {
            for (int wrong : new int[] {0, 201, -1, FAR[0], FAR[1]}) {
                due.refuses("pass(" + wrong + ")", ARGUMENT, Bench::midway, x -> x.pass(wrong));
            }
        });
    }

    private void finish(Sentences s) {
        s.section("Promise 11: finish");
        s.holds("Lets slots pass until the bus is idle and all queues are empty.", () -> {
            TwoWires x = Bench.midway();
            x.finish();
            due.is("idle", x.value(4), 1);
            due.is("queues", x.caller(0, 0) + x.caller(1, 0), 0);
            due.is("the last slot is a stop slot", x.log(0, 2), 7);
            TwoWires y = new TwoWires();
            y.read(0, 9, 1);
            y.pass(10);
            due.is("the queues are empty, but the bus is not idle", y.finish(), 1);
            y.read(0, 9, 1);
            due.is("the bus is idle, but a queue is not empty", y.finish(), 11);
            due.is("the most that can be", most().finish(), 12 * (11 + 4 * 18));
        });
        s.holds("Undoable.", () -> {
            TwoWires x = new TwoWires();
            undone(x, x::finish);
            x.read(0, 9, 1);
            undone(x, x::finish);
        });
        s.holds("Returns the slots that passed (0 if it was so already).", () -> {
            TwoWires x = new TwoWires();
            due.is("at first", x.finish(), 0);
            x.pass(3);
            due.is("behind idle slots", x.finish(), 0);
            x.read(0, 9, 1);
            due.is("one message", x.finish(), 11);
            due.is("again", x.finish(), 0);
            due.is("no slot passed", x.value(0), 14);
        });
    }

    /** Three full queues of reads of 4 bytes, no two of which go together, and the longest hold. */
    private static TwoWires most() {
        TwoWires x = Bench.with(3);
        x.setLimit(9);
        for (int c = 0; c < 3; c++) {
            x.addListener(c, 9);
            for (int i = 0; i < 4; i++) {
                x.read(c, c, 4);
            }
        }
        return x;
    }
}
