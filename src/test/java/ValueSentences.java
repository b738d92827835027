/** Promises 12 to 17: what is told of callers, messages, listeners, memories, the bus and its log. */
final class ValueSentences {
    private static final Class<IllegalArgumentException> ARGUMENT = IllegalArgumentException.class;
    private static final Class<IndexOutOfBoundsException> INDEX = IndexOutOfBoundsException.class;
    private static final int[] FAR = {Integer.MIN_VALUE, Integer.MAX_VALUE};

    private final Due due;

    private ValueSentences(Due due) {
        this.due = due;
    }

    static void run(Sentences s) {
        ValueSentences t = new ValueSentences(s.due);
        t.caller(s);
        t.message(s);
        t.listener(s);
        t.memory(s);
        t.value(s);
        t.log(s);
    }

    /** A call with a number and what is asked of it. */
    interface Asking {
        int make(TwoWires x, int number, int what);
    }

    private void noSuch(Asking made, int what, int... wrong) {
        for (int number : wrong) {
            due.refuses("number " + number, INDEX, Bench::midway, x -> made.make(x, number, what));
        }
    }

    private void noSuchWhat(Asking made, int first) {
        for (int what : new int[] {-1, first, FAR[0], FAR[1]}) {
            due.refuses("what " + what, ARGUMENT, Bench::midway, x -> made.make(x, 0, what));
        }
    }

    private void caller(Sentences s) {
        s.section("Promise 12: caller");
        s.holds("Returns something about a caller.", () -> {
            TwoWires x = Bench.midway();
            String before = Bench.all(x);
            due.is("caller 0", Bench.caller(x, 0), "3 1 0 0 0 0 0 -1 1");
            due.is("caller 1", Bench.caller(x, 1), "4 0 0 0 0 1 0 -1 0");
            due.is("nothing changes", Bench.all(x), before);
        });
        s.holds("caller: number of a caller", () -> {
            TwoWires x = Bench.with(3);
            x.read(2, 9, 1);
            due.is("the first", x.caller(0, 0), 0);
            due.is("the last", x.caller(2, 0), 1);
        });
        s.holds("what: 0 the messages in its queue,", () -> {
            TwoWires x = new TwoWires();
            for (int messages = 0; messages < 4; messages++) {
                due.is("messages", x.caller(0, 0), messages);
                x.read(0, 9, 1);
            }
            due.is("messages", x.caller(0, 0), 4);
        });
        s.holds("1 those that were DELIVERED so far, 2 with NO_ANSWER, 3 REFUSED, 4 LOST, 5 the losses of its messages so"
                + " far,", this::outcomes);
        s.holds("6 the bytes that it received so far, 7 the last byte that it received (NONE if there is none),",
                this::receivedBytes);
        s.holds("8 1 if it is a contender, otherwise 0", () -> {
            TwoWires x = new TwoWires();
            x.read(0, 9, 1);
            due.is("before the start slot", x.caller(0, 8), 0);
            x.pass(1);
            due.is("behind the start slot", x.caller(0, 8), 1);
            due.is("the other", x.caller(1, 8), 0);
            x.pass(8);
            due.is("before the answer", x.caller(0, 8), 1);
            x.pass(1);
            due.is("behind the answer", x.caller(0, 8), 0);
        });
        s.holds("Returns that value.", () -> due.is("with what 8", Bench.midway().caller(0, 8), 1));
        s.holds("Throws IndexOutOfBoundsException if there is no such caller", () -> {
            noSuch(TwoWires::caller, 0, -1, 2, 3, FAR[0], FAR[1]);
            due.refuses("caller 3 of 3", INDEX, () -> Bench.with(3), x -> x.caller(3, 0));
            due.refuses("caller 1 of 1", INDEX, () -> Bench.with(1), x -> x.caller(1, 0));
        });
        s.holds("Throws IllegalArgumentException if what is out of range", () -> noSuchWhat(TwoWires::caller, 9));
    }

    private void outcomes() {
        TwoWires x = new TwoWires();
        x.addListener(5, 0);
        x.setLimit(1);
        Bench.store(x, 5, 15);
        due.is("DELIVERED", x.caller(0, 1), 15);
        x.read(0, 6, 1);
        x.finish();
        due.is("NO_ANSWER", x.caller(0, 2), 1);
        Bench.send(x, 0, 5, 1, 2);
        x.finish();
        due.is("REFUSED", x.caller(0, 3), 1);
        x.read(0, 6, 1);
        x.read(1, 4, 1);
        x.finish();
        due.is("LOST", x.caller(0, 4), 1);
        due.is("losses", x.caller(0, 5), 1);
        x.setLimit(2);
        x.read(0, 6, 1);
        x.read(1, 4, 1);
        x.finish();
        due.is("losses of one that is not LOST", x.caller(0, 5), 2);
        due.is("all of caller 0", Bench.caller(x, 0), "0 15 2 1 1 2 0 -1 0");
        due.is("all of caller 1", Bench.caller(x, 1), "0 0 2 0 0 0 0 -1 0");
    }

    private void receivedBytes() {
        TwoWires x = new TwoWires();
        due.is("bytes at first", x.caller(0, 6), 0);
        due.is("the last byte at first", x.caller(0, 7), -1);
        x.addListener(5, 0);
        Bench.send(x, 1, 5, 0, 255, 9);
        x.finish();
        int[] bytes = {0, 255, 9, 0};
        for (int i = 0; i < bytes.length; i++) {
            x.read(0, 5, 1);
            x.finish();
            due.is("bytes", x.caller(0, 6), i + 1);
            due.is("the last byte", x.caller(0, 7), bytes[i]);
        }
        due.is("who writes receives none", x.caller(1, 7), -1);
        x.read(0, 5, 4);
        x.finish();
        due.is("bytes behind a longer read", x.caller(0, 6), 8);
    }

    private void message(Sentences s) {
        s.section("Promise 13: message");
        s.holds("Returns something about a message in a queue.", () -> {
            TwoWires x = Bench.midway();
            String before = Bench.all(x);
            due.is("the first of caller 0", Bench.message(x, 0, 0), "5 0 2 0 7 8 -1 -1");
            due.is("the second of caller 0", Bench.message(x, 0, 1), "5 1 4 0 -1 -1 -1 -1");
            due.is("the second of caller 1", Bench.message(x, 1, 1), "9 0 4 0 4 5 6 255");
            due.is("nothing changes", Bench.all(x), before);
        });
        s.holds("caller: number of a caller", () -> {
            TwoWires x = Bench.with(3);
            x.read(0, 8, 1);
            x.read(2, 9, 1);
            due.is("the first", x.message(0, 0, 0), 8);
            due.is("the last", x.message(2, 0, 0), 9);
        });
        s.holds("place: 0 for the first message, and so on", () -> {
            TwoWires x = new TwoWires();
            for (int place = 0; place < 4; place++) {
                x.read(0, 50 + place, 1);
                due.is("the last one", x.message(0, place, 0), 50 + place);
            }
            due.is("the first one", x.message(0, 0, 0), 50);
            x.pass(11);
            due.is("the first one behind a transfer", x.message(0, 0, 0), 51);
            due.is("the last one behind a transfer", x.message(0, 2, 0), 53);
        });
        s.holds("what: 0 its address, 1 1 for a read, 0 for a write, 2 the number of its bytes, 3 how often it lost,", () -> {
            TwoWires x = Bench.midway();
            due.is("address", x.message(1, 3, 0), 127);
            due.is("a read", x.message(1, 3, 1), 1);
            due.is("a write", x.message(1, 1, 1), 0);
            due.is("bytes", x.message(1, 1, 2), 4);
            due.is("losses", x.message(1, 0, 3), 1);
            due.is("no losses", x.message(1, 1, 3), 0);
        });
        s.holds("4 to 7 its first to fourth byte (NONE if it has not so many, and for a read)", () -> {
            String[] want = {"11 -1 -1 -1", "0 11 -1 -1", "0 0 11 -1", "0 0 0 11"};
            for (int count = 1; count <= 4; count++) {
                TwoWires x = new TwoWires();
                x.write(0, 1, count, 11);
                x.read(0, 1, count);
                due.is("a write of " + count, Bench.message(x, 0, 0), "1 0 " + count + " 0 " + want[count - 1]);
                due.is("a read of " + count, Bench.message(x, 0, 1), "1 1 " + count + " 0 -1 -1 -1 -1");
            }
        });
        s.holds("Returns that value.", () -> due.is("with what 7", Bench.midway().message(1, 1, 7), 255));
        s.holds("Throws IndexOutOfBoundsException if there is no such caller,",
                () -> noSuch((x, c, what) -> x.message(c, 0, what), 0, -1, 2, 3, FAR[0], FAR[1]));
        s.holds("or the queue has not so many messages", () -> {
            noSuch((x, place, what) -> x.message(0, place, what), 0, -1, 3, 4, FAR[0], FAR[1]);
            noSuch((x, place, what) -> x.message(1, place, what), 0, -1, 4, FAR[0], FAR[1]);
            due.refuses("the first of none", INDEX, TwoWires::new, x -> x.message(0, 0, 0));
            due.is("the last of 3", Bench.midway().message(0, 2, 0), 9);
            due.is("the last of 4", Bench.midway().message(1, 3, 0), 127);
        });
        s.holds("Throws IllegalArgumentException if what is out of range",
                () -> noSuchWhat((x, place, what) -> x.message(0, place, what), 8));
    }

    private void listener(Sentences s) {
        s.section("Promise 14: listener");
        s.holds("Returns something about a listener.", () -> {
            TwoWires x = Bench.midway();
            String before = Bench.all(x);
            due.is("listener 0", Bench.listener(x, 0), "5 2 4 0 1 10");
            due.is("listener 1", Bench.listener(x, 1), "9 0 0 0 0 0");
            due.is("nothing changes", Bench.all(x), before);
        });
        s.holds("listener: number of a listener", () -> {
            due.is("the first of 6", TermSentences.withListeners(6).listener(0, 0), 10);
            due.is("the last of 6", TermSentences.withListeners(6).listener(5, 0), 15);
        });
        s.holds("what: 0 its address, 1 its hold, 2 the bytes in its memory, 3 its pointer, 4 1 if it is on, otherwise 0,",
                () -> {
                    TwoWires x = new TwoWires();
                    x.addListener(127, 9);
                    Bench.store(x, 127, 16);
                    for (int i = 0; i < 5; i++) {
                        x.read(0, 127, 3);
                        x.finish();
                    }
                    due.is("with a full memory", Bench.listener(x, 0), "127 9 16 15 1 " + (16 + 15) * 9);
                    x.read(0, 127, 1);
                    x.turn(0, false);
                    due.is("off", x.listener(0, 4), 0);
                });
        s.holds("5 the slots that it held so far", () -> {
            TwoWires x = new TwoWires();
            x.addListener(5, 3);
            x.addListener(6, 1);
            Bench.send(x, 0, 5, 1, 2);
            x.pass(10);
            due.is("before the first held slot", x.listener(0, 5), 0);
            x.pass(1);
            due.is("behind the first held slot", x.listener(0, 5), 1);
            x.finish();
            due.is("behind the transfer", x.listener(0, 5), 6);
            due.is("the other one", x.listener(1, 5), 0);
            x.read(0, 6, 1);
            x.finish();
            due.is("behind the other's transfer", x.listener(0, 5), 6);
            due.is("the other one now", x.listener(1, 5), 1);
        });
        s.holds("Returns that value.", () -> due.is("with what 5", Bench.midway().listener(0, 5), 10));
        s.holds("Throws IndexOutOfBoundsException if there is no such listener", () -> {
            noSuch(TwoWires::listener, 0, -1, 2, 6, FAR[0], FAR[1]);
            due.refuses("the first of none", INDEX, TwoWires::new, x -> x.listener(0, 0));
            due.refuses("listener 6 of 6", INDEX, () -> TermSentences.withListeners(6), x -> x.listener(6, 0));
        });
        s.holds("Throws IllegalArgumentException if what is out of range", () -> noSuchWhat(TwoWires::listener, 6));
    }

    private static TwoWires withBytes(int count) {
        TwoWires x = TermSentences.withListeners(1);
        Bench.store(x, 10, count);
        return x;
    }

    private void memory(Sentences s) {
        s.section("Promise 15: memory");
        s.holds("Returns a byte of the memory of a listener.", () -> {
            TwoWires x = Bench.midway();
            String before = Bench.all(x);
            due.is("the first", x.memory(0, 0), 1);
            due.is("the last", x.memory(0, 3), 7);
            due.is("nothing changes", Bench.all(x), before);
        });
        s.holds("listener: number of a listener", () -> {
            TwoWires x = TermSentences.withListeners(6);
            Bench.send(x, 0, 10, 4);
            Bench.send(x, 0, 15, 5);
            x.finish();
            due.is("the first of 6", x.memory(0, 0), 4);
            due.is("the last of 6", x.memory(5, 0), 5);
        });
        s.holds("place: 0 for the first byte, and so on", () -> {
            TwoWires x = withBytes(16);
            for (int place = 0; place < 16; place++) {
                due.is("place " + place, x.memory(0, place), place + 1);
            }
        });
        s.holds("Returns the byte.", () -> {
            TwoWires x = TermSentences.withListeners(1);
            Bench.send(x, 0, 10, 0, 128, 255);
            x.finish();
            due.is("the bytes", Bench.memory(x, 0), "0 128 255");
        });
        s.holds("Throws IndexOutOfBoundsException if there is no such listener,", () -> {
            noSuch(TwoWires::memory, 0, -1, 2, 6, FAR[0], FAR[1]);
            due.refuses("the first of none", INDEX, TwoWires::new, x -> x.memory(0, 0));
        });
        s.holds("or its memory has not so many bytes", () -> {
            noSuch((x, place, what) -> x.memory(0, place), 0, -1, 4, 15, 16, FAR[0], FAR[1]);
            due.refuses("an empty memory", INDEX, () -> withBytes(0), x -> x.memory(0, 0));
            due.refuses("a memory of one byte", INDEX, () -> withBytes(1), x -> x.memory(0, 1));
            due.refuses("a full memory", INDEX, () -> withBytes(16), x -> x.memory(0, 16));
            due.refuses("a full memory, before it", INDEX, () -> withBytes(16), x -> x.memory(0, -1));
        });
    }

    private void value(Sentences s) {
        s.section("Promise 16: value");
        s.holds("Returns a number.", () -> {
            TwoWires x = Bench.midway();
            String before = Bench.all(x);
            due.is("the numbers", Bench.values(x), "72 2 2 3 0 1 72 10 0 1");
            due.is("nothing changes", Bench.all(x), before);
        });
        s.holds("what: 0 the present slot, 1 the callers, 2 the listeners, 3 the limit,", () -> {
            TwoWires x = TermSentences.withListeners(6);
            x.setLimit(9);
            x.pass(5);
            due.is("the numbers", Bench.values(x), "5 2 6 9 1 0 0 0 -1 1");
            x.begin(3);
            due.is("behind begin()", Bench.values(x), "0 3 0 4 1 0 0 0 -1 1");
        });
        s.holds("4 1 if the bus is idle, otherwise 0,", () -> {
            TwoWires x = new TwoWires();
            x.read(0, 9, 1);
            due.is("before the start slot", x.value(4), 1);
            for (int slot = 1; slot <= 10; slot++) {
                x.pass(1);
                due.is("in a transfer", x.value(4), 0);
            }
            x.pass(1);
            due.is("behind the stop slot", x.value(4), 1);
        });
        s.holds("5 the set of the contenders (bit c for the caller c),", () -> {
            TwoWires x = Bench.with(3);
            due.is("none", x.value(5), 0);
            x.read(0, 1, 1);
            x.read(1, 2, 1);
            x.read(2, 0, 1);
            x.pass(1);
            due.is("all", x.value(5), 7);
            x.pass(6);
            due.is("0 and 2", x.value(5), 5);
            x.pass(1);
            due.is("2", x.value(5), 4);
        });
        s.holds("6 the slots so far that were not idle slots, 7 the slots so far in which the line was held,", () -> {
            TwoWires x = TermSentences.withListeners(3);
            x.pass(2);
            Bench.send(x, 0, 12, 1);
            Bench.send(x, 0, 11, 1);
            due.is("two idle slots", x.value(6), 0);
            x.pass(1);
            due.is("a start slot is none", x.value(6), 1);
            x.finish();
            due.is("a stop slot is none", x.value(6), 22 + 21);
            due.is("slots held by two listeners", x.value(7), 2 + 1);
            x.pass(3);
            due.is("idle slots behind them", x.value(6), 22 + 21);
        });
        s.holds("8 the listener that takes part (NONE if none does),", () -> {
            TwoWires x = TermSentences.withListeners(6);
            due.is("at first", x.value(8), -1);
            x.read(0, 15, 1);
            x.pass(10);
            due.is("the last of 6", x.value(8), 5);
            x.finish();
            due.is("behind it", x.value(8), -1);
            x.read(0, 10, 1);
            x.pass(10);
            due.is("the first of 6", x.value(8), 0);
        });
        s.holds("9 the level of the last slot (1 if none has passed)", () -> {
            TwoWires x = new TwoWires();
            due.is("none has passed", x.value(9), 1);
            x.write(0, 127, 1, 0);
            String levels = "0" + "11111110" + "1" + "1";
            for (int slot = 0; slot < levels.length(); slot++) {
                x.pass(1);
                due.is("behind slot " + slot, x.value(9), levels.charAt(slot) - '0');
            }
            x.read(0, 1, 1);
            x.pass(1);
            x.begin(2);
            due.is("none has passed behind begin()", x.value(9), 1);
        });
        s.holds("Returns that number.", () -> due.is("with what 9", Bench.midway().value(9), 1));
        s.holds("Throws IllegalArgumentException if what is out of range",
                () -> noSuchWhat((x, none, what) -> x.value(what), 10));
    }

    private void log(Sentences s) {
        s.section("Promise 17: log");
        s.holds("Returns something about one of the latest slots.", () -> {
            TwoWires x = Bench.midway();
            String before = Bench.all(x);
            due.is("the latest", "" + x.log(0, 0) + x.log(0, 1) + x.log(0, 2), "114");
            due.is("nothing changes", Bench.all(x), before);
        });
        s.holds("The latest 64 slots are kept.", this::keptSlots);
        s.holds("back: 0 for the latest slot, 1 for the one before it, and so on", () -> {
            TwoWires x = new TwoWires();
            x.read(0, 0, 1);
            x.pass(11);
            String kinds = "12222222237";
            for (int back = 0; back < 11; back++) {
                due.is("back " + back, x.log(back, 2), kinds.charAt(10 - back) - '0');
            }
        });
        s.holds("what: 0 its level,", () -> {
            TwoWires x = new TwoWires();
            x.write(0, 85, 1, 0);
            x.finish();
            due.is("levels", Bench.levels(x, 11), "0" + "10101010" + "1" + "1");
        });
        s.holds("1 the set of the contenders at its end,", () -> {
            TwoWires x = new TwoWires();
            x.pass(1);
            x.read(0, 0, 1);
            x.read(1, 0, 1);
            x.write(1, 0, 1, 0);
            x.pass(22);
            due.is("contenders", Bench.contenders(x, 23), "0" + "333333333" + "00" + "222222222" + "00");
            x.write(1, 8, 1, 0);
            x.read(0, 9, 1);
            x.pass(9);
            due.is("the one who loses at a bit is none at its end", Bench.contenders(x, 3), "322");
        });
        s.holds("2 what it was: 0 idle, 1 start, 2 a bit of a header, 3 the answer to a header, 4 a bit of a byte, 5 the"
                + " answer to a byte, 6 held, 7 stop", () -> {
                    TwoWires x = new TwoWires();
                    x.addListener(9, 1);
                    x.pass(1);
                    x.read(0, 9, 1);
                    x.pass(22);
                    due.is("kinds of a read", Bench.kinds(x, 23), "0" + "1" + "22222222" + "3" + "6" + "44444444" + "5" + "7"
                            + "0");
                    x.write(0, 9, 1, 0);
                    x.pass(22);
                    due.is("kinds of a write", Bench.kinds(x, 23), "0" + "1" + "22222222" + "3" + "6" + "44444444" + "5"
                            + "7" + "0");
                });
        s.holds("Returns that value.", () -> due.is("with what 2", Bench.midway().log(0, 2), 4));
        s.holds("Throws IndexOutOfBoundsException if no such slot is kept", this::slotsNotKept);
        s.holds("Throws IllegalArgumentException if what is out of range",
                () -> noSuchWhat((x, none, what) -> x.log(0, what), 3));
    }

    private void keptSlots() {
        TwoWires x = new TwoWires();
        x.read(0, 127, 1);
        x.pass(1);
        for (int slots = 1; slots <= 63; slots++) {
            due.is("the first slot, of " + slots, x.log(slots - 1, 2), 1);
            x.pass(1);
        }
        due.is("the first slot, of 64", x.log(63, 2), 1);
        x.pass(1);
        due.is("the second slot, of 65", x.log(63, 2), 2);
        x.pass(8);
        due.is("the tenth slot, of 73", x.log(63, 2), 3);
        x.pass(1);
        due.is("the eleventh slot, of 74", x.log(63, 2), 7);
        x.read(0, 9, 1);
        x.pass(65);
        due.is("the second slot of a later transfer, of 139", x.log(63, 2), 2);
        due.is("its level", x.log(63, 0), 0);
        due.is("its contenders", x.log(63, 1), 1);
        x.pass(200);
        due.is("200 idle slots later", Bench.kinds(x, 64).replace("0", ""), "");
    }

    private void slotsNotKept() {
        due.refuses("none has passed", INDEX, TwoWires::new, x -> x.log(0, 0));
        due.refuses("none has passed since begin()", INDEX, () -> begunBehind(70), x -> x.log(0, 0));
        for (int slots : new int[] {1, 2, 63, 64, 65, 127, 128, 129, 200}) {
            int kept = Math.min(slots, 64);
            due.is("the oldest of " + slots, passed(slots).log(kept - 1, 0), 1);
            due.refuses("one more, of " + slots, INDEX, () -> passed(slots), x -> x.log(kept, 0));
            for (int wrong : new int[] {-1, 64, 65, FAR[0], FAR[1]}) {
                due.refuses("back " + wrong + ", of " + slots, INDEX, () -> passed(slots), x -> x.log(wrong, 0));
            }
        }
    }

    private static TwoWires passed(int slots) {
        TwoWires x = new TwoWires();
        x.pass(slots);
        return x;
    }

    private static TwoWires begunBehind(int slots) {
        TwoWires x = passed(slots);
        x.begin(2);
        return x;
    }
}
