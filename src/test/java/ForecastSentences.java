/** Promises 18 to 22: what would happen, without its happening, and how busy the bus was. */
final class ForecastSentences {
    private static final Class<IndexOutOfBoundsException> INDEX = IndexOutOfBoundsException.class;

    private final Due due;

    private ForecastSentences(Due due) {
        this.due = due;
    }

    static void run(Sentences s) {
        ForecastSentences t = new ForecastSentences(s.due);
        t.slotsToFinish(s);
        t.alone(s);
        t.winners(s);
        t.delivers(s);
        t.busy(s);
    }

    /** Asks something that changes nothing. */
    private void still(TwoWires x, Due.Call asked) {
        String all = Bench.all(x);
        int saved = Bench.savedOf(x, 0);
        asked.make();
        due.is("what it left", Bench.all(x), all);
        due.is("saved states", Bench.savedOf(x, 0), saved);
    }

    private void slotsToFinish(Sentences s) {
        s.section("Promise 18: slotsToFinish");
        s.holds("Tells how many slots finish() would take.", () -> {
            TwoWires x = new TwoWires();
            due.is("nothing to do", x.slotsToFinish(), 0);
            x.pass(1);
            due.is("behind an idle slot", x.slotsToFinish(), 0);
            x.read(0, 9, 1);
            for (int slot = 0; slot < 11; slot++) {
                due.is("behind slot " + slot, x.slotsToFinish(), 11 - slot);
                x.pass(1);
            }
            due.is("behind the stop slot", x.slotsToFinish(), 0);
            TwoWires y = Bench.midway();
            int forecast = y.slotsToFinish();
            due.is("midway", y.finish(), forecast);
            due.is("midway, 5 slots and five transfers", forecast, 5 + 33 + 55 + 11 + 33 + 11);
        });
        s.holds("Returns the number of slots.", () -> {
            TwoWires x = new TwoWires();
            x.read(0, 9, 1);
            x.read(1, 8, 1);
            still(x, x::slotsToFinish);
            due.is("two transfers", x.slotsToFinish(), 22);
            due.is("asked again", x.slotsToFinish(), 22);
        });
    }

    private void noSuchCaller(BusSentences.Numbered asked) {
        for (int wrong : new int[] {-1, 2, 3, Integer.MIN_VALUE, Integer.MAX_VALUE}) {
            due.refuses("caller " + wrong, INDEX, Bench::midway, x -> asked.make(x, wrong));
        }
        for (int callers = 1; callers <= 3; callers++) {
            int count = callers;
            due.refuses("caller " + count + " of " + count, INDEX, () -> Bench.with(count), x -> asked.make(x, count));
        }
    }

    private void alone(Sentences s) {
        s.section("Promise 19: alone");
        s.holds("Tells how many slots the first message of a caller would take", () -> {
            for (int hold : new int[] {0, 1, 9}) {
                for (int count = 1; count <= 4; count++) {
                    TwoWires x = new TwoWires();
                    x.addListener(5, hold);
                    x.write(0, 5, count, 0);
                    x.read(1, 5, count);
                    x.read(1, 6, 1);
                    due.is("a write", x.alone(0), 11 + count * (9 + hold));
                    due.is("a read", x.alone(1), 11 + count * (9 + hold));
                    still(x, () -> x.alone(1));
                }
            }
        });
        s.holds("on an idle bus, with no other caller:", () -> {
            TwoWires x = new TwoWires();
            x.addListener(5, 0);
            x.setLimit(1);
            Bench.send(x, 0, 5, 1, 2);
            Bench.send(x, 1, 5, 1, 3);
            due.is("one who would lose", x.alone(1), 29);
            x.pass(15);
            due.is("in the middle of its transfer", x.alone(0), 29);
            due.is("in the middle of a transfer", x.alone(1), 29);
            x.turn(0, false);
            due.is("with a listener that takes part, but is off", x.alone(0), 11);
        });
        s.holds("from the start slot to the stop slot.", () -> {
            TwoWires x = new TwoWires();
            x.addListener(5, 2);
            Bench.store(x, 5, 14);
            x.addListener(6, 0);
            x.turn(1, false);
            alike("no listener", x, 7, 4, 11);
            alike("a listener that is off", x, 6, 4, 11);
            alike("one byte that has room", x, 5, 1, 22);
            alike("the sixteenth byte is the last one", x, 5, 1, 22);
            alike("the first byte is refused", x, 5, 1, 22);
            alike("the first of four bytes is refused", x, 5, 4, 22);
            x.empty(0);
            Bench.store(x, 5, 15);
            alike("the second byte of four is refused", x, 5, 4, 33);
            x.empty(0);
            Bench.store(x, 5, 12);
            alike("four bytes have just room", x, 5, 4, 55);
            x.empty(0);
            Bench.store(x, 5, 13);
            alike("the fourth byte is refused", x, 5, 4, 55);
            due.is("REFUSED", x.caller(0, 3), 4);
            aloneOfReads();
        });
        s.holds("caller: number of a caller", () -> {
            TwoWires x = Bench.with(3);
            x.read(2, 9, 1);
            due.is("the first", x.alone(0), -1);
            due.is("the last", x.alone(2), 11);
        });
        s.holds("Returns the number of slots; NONE if its queue is empty.", () -> {
            TwoWires x = new TwoWires();
            x.read(1, 9, 1);
            due.is("an empty queue", x.alone(0), -1);
            due.is("the other queue", x.alone(1), 11);
            x.pass(10);
            due.is("a queue that is empty before the stop slot", x.alone(1), -1);
        });
        s.holds("Throws IndexOutOfBoundsException if there is no such caller", () -> noSuchCaller(TwoWires::alone));
    }

    private void aloneOfReads() {
        for (int stored : new int[] {0, 1, 13, 15, 16}) {
            TwoWires x = new TwoWires();
            x.addListener(5, 1);
            Bench.store(x, 5, stored);
            x.read(0, 5, 4);
            due.is("a read of 4 from " + stored + " bytes", x.alone(0), 51);
            due.is("a read of 4 from " + stored + " bytes, finish()", x.finish(), 51);
        }
    }

    /** A write that is alone takes as many slots as it is told to. */
    private void alike(String what, TwoWires x, int address, int count, int slots) {
        x.write(0, address, count, 0);
        due.is(what, x.alone(0), slots);
        due.is(what + ", finish()", x.finish(), slots);
    }

    private void winners(Sentences s) {
        s.section("Promise 20: winners");
        s.holds("Tells which callers would be left behind the header if the first messages of all callers began together"
                + " now.", this::leftBehindTheHeader);
        s.holds("Returns the set of the callers; 0 if all queues are empty.", () -> {
            TwoWires x = Bench.with(3);
            due.is("all queues are empty", x.winners(), 0);
            for (int c = 0; c < 3; c++) {
                x.read(c, 9, 1);
                due.is("one", x.winners(), 1 << c);
                still(x, x::winners);
                x.cancel(c);
            }
            x.read(0, 9, 1);
            x.pass(10);
            due.is("all queues are empty before the stop slot", x.winners(), 0);
        });
    }

    private void leftBehindTheHeader() {
        int[][] addresses = {{0, 0, 0}, {0, 127, 64}, {127, 127, 126}, {127, 127, 127}, {64, 63, 63}, {1, 0, 1}};
        int[] winners = {7, 1, 4, 7, 6, 2};
        for (int i = 0; i < winners.length; i++) {
            TwoWires x = Bench.with(3);
            for (int c = 0; c < 3; c++) {
                x.read(c, addresses[i][c], 1 + c);
                x.write(c, 0, 1, 0);
            }
            due.is("winners", x.winners(), winners[i]);
            x.pass(9);
            due.is("contenders behind the header", x.value(5), winners[i]);
        }
        TwoWires y = Bench.with(3);
        y.read(0, 7, 1);
        y.write(1, 7, 1, 0);
        due.is("a write before a read of the same address", y.winners(), 2);
        y.write(2, 7, 4, 255);
        due.is("the bytes do not matter", y.winners(), 6);
        y.setLimit(1);
        y.pass(9);
        y.read(0, 6, 1);
        due.is("one who is no contender now", y.winners(), 1);
    }

    private void delivers(Sentences s) {
        s.section("Promise 21: delivers");
        s.holds("Tells how many messages of a caller would be DELIVERED by finish().", () -> {
            TwoWires x = new TwoWires();
            x.addListener(5, 0);
            Bench.store(x, 5, 15);
            Bench.send(x, 0, 5, 1);
            Bench.send(x, 0, 5, 2);
            x.read(0, 5, 1);
            x.read(0, 6, 1);
            due.is("one is REFUSED, one has NO_ANSWER", x.delivers(0), 2);
            still(x, () -> x.delivers(0));
            x.pass(19);
            due.is("one was DELIVERED", x.delivers(0), 1);
            x.finish();
            due.is("all were DELIVERED", x.caller(0, 1), 17);
            due.is("none is left", x.delivers(0), 0);
            TwoWires y = new TwoWires();
            y.addListener(5, 0);
            y.setLimit(1);
            y.read(0, 5, 1);
            Bench.send(y, 1, 5, 1);
            due.is("one is LOST", y.delivers(0), 0);
            due.is("the other is not", y.delivers(1), 1);
        });
        s.holds("caller: number of a caller", () -> {
            TwoWires x = Bench.with(3);
            x.addListener(5, 0);
            x.read(2, 5, 1);
            due.is("the first", x.delivers(0), 0);
            due.is("the last", x.delivers(2), 1);
        });
        s.holds("Returns the number of messages.", () -> {
            TwoWires x = new TwoWires();
            x.addListener(5, 0);
            for (int messages = 0; messages < 4; messages++) {
                due.is("messages", x.delivers(0), messages);
                x.read(0, 5, 1);
            }
            due.is("messages", x.delivers(0), 4);
        });
        s.holds("Throws IndexOutOfBoundsException if there is no such caller", () -> noSuchCaller(TwoWires::delivers));
    }

    private void busy(Sentences s) {
        s.section("Promise 22: busy");
        s.holds("Returns how busy the bus was.", () -> {
            TwoWires x = new TwoWires();
            x.read(0, 9, 1);
            x.finish();
            due.is("always", x.busy(), 1.0);
            still(x, x::busy);
            x.pass(11);
            due.is("half of the time", x.busy(), 0.5);
        });
        s.holds("Returns the slots that were not idle slots, converted to double, divided by the slots that have passed,"
                + " converted to double;", () -> {
                    TwoWires x = new TwoWires();
                    x.pass(1);
                    due.is("one idle slot", x.busy(), 0.0);
                    x.read(0, 9, 1);
                    for (int slots = 1; slots <= 11; slots++) {
                        x.pass(1);
                        due.is("not idle", x.busy(), (double) slots / (double) (slots + 1));
                    }
                    x.pass(200);
                    due.is("much later", x.busy(), 11.0 / 212.0);
                });
        s.holds("0.0 if none has passed.", () -> {
            TwoWires x = new TwoWires();
            due.is("at first", x.busy(), 0.0);
            x.read(0, 9, 1);
            due.is("before the start slot", x.busy(), 0.0);
            x.pass(1);
            due.is("behind it", x.busy(), 1.0);
            x.begin(1);
            due.is("behind begin()", x.busy(), 0.0);
        });
    }
}
