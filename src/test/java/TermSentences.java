/** 'Terms', up to the limit: bytes, callers, messages, listeners, the limit. */
final class TermSentences {
    private static final Class<IllegalArgumentException> ARGUMENT = IllegalArgumentException.class;
    private static final Class<IllegalStateException> STATE = IllegalStateException.class;
    private static final Class<IndexOutOfBoundsException> INDEX = IndexOutOfBoundsException.class;

    private final Due due;

    private TermSentences(Due due) {
        this.due = due;
    }

    static void run(Sentences s) {
        TermSentences t = new TermSentences(s.due);
        s.section("Terms");
        s.saysNothing("All numbers are whole.");
        s.holds("Bytes are told as 0 to 255;", t::bytesAreNotSigned);
        s.holds("the bits of a byte go over the bus from the highest to the lowest one.", t::highestBitFirst);
        s.holds("There are 1 to 3 callers, initially 2, numbered from 0.", t::oneToThreeCallers);
        s.holds("Each has a queue of at most 4 messages.", t::fourMessages);
        s.holds("A message has an address, 0 to 127,", t::addressOfMessage);
        s.holds("is a write with 1 to 4 bytes or a read of 1 to 4 bytes,", t::bytesOfMessage);
        s.holds("and counts how often it lost.", t::lossesOfMessage);
        s.holds("Its header is the byte 2 * address for a write, and 2 * address + 1 for a read.", t::headers);
        s.holds("There are at most 6, numbered from 0,", t::sixListeners);
        s.holds("with different addresses.", t::differentAddresses);
        s.holds("A listener has a hold, 0 to 9,", t::holds);
        s.holds("a memory of at most 16 bytes,", t::sixteenBytes);
        s.holds("empty at first,", t::emptyAtFirst);
        s.holds("a pointer, 0 at first,", t::pointerAtFirst);
        s.holds("and is on (at first) or off.", t::onAtFirst);
        s.holds("The limit is 1 to 9,", t::limitRange);
        s.holds("initially 4.", t::limitAtFirst);
        s.holds("A message that has lost as often as the limit tells,", t::lostAtTheLimit);
        s.holds("or more often,", t::lostBeyondTheLimit);
        s.holds("is dropped as it loses: it is LOST.", t::droppedAsItLoses);
        s.holds("NONE = -1: There is no such thing.", t::none);
        s.saysNothing("The constants:");
        s.saysNothing("Callers.");
        s.saysNothing("Messages.");
        s.saysNothing("Listeners.");
        s.saysNothing("Limit.");
    }

    private void bytesAreNotSigned() {
        TwoWires x = new TwoWires();
        x.addListener(5, 0);
        Bench.send(x, 0, 5, 0, 127, 128, 255);
        due.is("the message", Bench.message(x, 0, 0), "5 0 4 0 0 127 128 255");
        x.finish();
        due.is("the memory", Bench.memory(x, 0), "0 127 128 255");
        for (int want : new int[] {0, 127, 128, 255}) {
            x.read(0, 5, 1);
            x.finish();
            due.is("the byte received", x.caller(0, 7), want);
        }
    }

    private void highestBitFirst() {
        TwoWires x = new TwoWires();
        x.addListener(5, 0);
        Bench.send(x, 0, 5, 128, 1);
        x.pass(10 + 8 + 1 + 8);
        due.is("bits of a write", Bench.levels(x, 17), "10000000" + "0" + "00000001");
        x.finish();
        x.read(0, 5, 2);
        x.pass(10 + 8 + 1 + 8);
        due.is("bits of a read", Bench.levels(x, 17), "10000000" + "0" + "00000001");
        TwoWires y = new TwoWires();
        y.write(0, 64, 1, 0);
        y.pass(9);
        due.is("bits of a header", Bench.levels(y, 8), "10000000");
    }

    private void oneToThreeCallers() {
        for (int callers = 1; callers <= 3; callers++) {
            int count = callers;
            due.is("callers", Bench.with(count).value(1), count);
            due.is("the first one's queue", Bench.with(count).caller(0, 0), 0);
            due.is("the last one's queue", Bench.with(count).caller(count - 1, 0), 0);
            due.refuses("the one behind it", INDEX, () -> Bench.with(count), x -> x.caller(count, 0));
        }
        due.is("initially", new TwoWires().value(1), 2);
        due.refuses("begin(0)", ARGUMENT, TwoWires::new, x -> x.begin(0));
        due.refuses("begin(4)", ARGUMENT, TwoWires::new, x -> x.begin(4));
    }

    private static TwoWires withFullQueue(int caller) {
        TwoWires x = Bench.with(3);
        x.write(caller, 1, 1, 0);
        x.read(caller, 2, 1);
        x.write(caller, 3, 1, 0);
        x.read(caller, 4, 1);
        return x;
    }

    private void fourMessages() {
        for (int caller = 0; caller < 3; caller++) {
            int c = caller;
            TwoWires x = withFullQueue(c);
            due.is("messages", x.caller(c, 0), 4);
            due.is("the fourth one's address", x.message(c, 3, 0), 4);
            due.refuses("a fifth one, a write", STATE, () -> withFullQueue(c), y -> y.write(c, 9, 1, 0));
            due.refuses("a fifth one, a read", STATE, () -> withFullQueue(c), y -> y.read(c, 9, 1));
            due.is("the next caller has a queue of its own", x.write((c + 1) % 3, 9, 1, 0), 1);
            x.cancel(c);
            due.is("there is room behind cancel()", x.read(c, 5, 1), 4);
            x.finish();
            due.is("there is room behind finish()", x.read(c, 5, 1), 1);
        }
        TwoWires z = withFullQueue(0);
        z.pass(9);
        due.refuses("the first message takes its place until it ends", STATE, z, () -> z.read(0, 5, 1));
        z.pass(1);
        due.is("there is room as it ends", z.read(0, 5, 1), 4);
    }

    private void addressOfMessage() {
        for (int address : new int[] {0, 1, 126, 127}) {
            TwoWires x = new TwoWires();
            x.write(0, address, 1, 0);
            x.read(0, address, 1);
            due.is("address of a write", x.message(0, 0, 0), address);
            due.is("address of a read", x.message(0, 1, 0), address);
        }
        for (int wrong : new int[] {-1, 128}) {
            due.refuses("write to " + wrong, ARGUMENT, TwoWires::new, x -> x.write(0, wrong, 1, 0));
            due.refuses("read from " + wrong, ARGUMENT, TwoWires::new, x -> x.read(0, wrong, 1));
        }
    }

    private void bytesOfMessage() {
        for (int count = 1; count <= 4; count++) {
            TwoWires x = new TwoWires();
            x.addListener(5, 0);
            x.write(0, 5, count, 0);
            x.finish();
            due.is("bytes stored by a write of " + count, x.listener(0, 2), count);
            x.read(1, 5, count);
            x.finish();
            due.is("bytes received by a read of " + count, x.caller(1, 6), count);
        }
        for (int wrong : new int[] {0, 5}) {
            due.refuses("write of " + wrong, ARGUMENT, TwoWires::new, x -> x.write(0, 5, wrong, 0));
            due.refuses("read of " + wrong, ARGUMENT, TwoWires::new, x -> x.read(0, 5, wrong));
        }
    }

    private void lossesOfMessage() {
        TwoWires x = new TwoWires();
        x.read(1, 9, 1);
        x.read(1, 9, 1);
        for (int losses = 0; losses < 4; losses++) {
            due.is("losses of the first message", x.message(1, 0, 3), losses);
            due.is("losses of the second message", x.message(1, 1, 3), 0);
            x.write(0, 0, 1, 0);
            x.pass(11);
        }
        due.is("the second message is the first one now", x.message(1, 0, 3), 0);
        x.write(0, 0, 1, 0);
        x.pass(11);
        due.is("it counts its own losses", x.message(1, 0, 3), 1);
        x.cancel(1);
        for (int place = 0; place < 4; place++) {
            x.read(1, 9, 1);
            due.is("losses of one that is queued behind those", x.message(1, place, 3), 0);
        }
    }

    private void headers() {
        String[] writes = {"00000000", "00000010", "10000000", "11111110"};
        String[] reads = {"00000001", "00000011", "10000001", "11111111"};
        int[] addresses = {0, 1, 64, 127};
        for (int i = 0; i < addresses.length; i++) {
            TwoWires x = new TwoWires();
            x.write(0, addresses[i], 1, 255);
            x.pass(9);
            due.is("header of a write to " + addresses[i], Bench.levels(x, 8), writes[i]);
            TwoWires y = new TwoWires();
            y.read(0, addresses[i], 1);
            y.pass(9);
            due.is("header of a read from " + addresses[i], Bench.levels(y, 8), reads[i]);
        }
    }

    static TwoWires withListeners(int count) {
        TwoWires x = new TwoWires();
        for (int n = 0; n < count; n++) {
            x.addListener(10 + n, n);
        }
        return x;
    }

    private void sixListeners() {
        TwoWires x = new TwoWires();
        for (int n = 0; n < 6; n++) {
            due.is("the number of the next one", x.addListener(10 + n, n), n);
            due.is("listeners", x.value(2), n + 1);
        }
        for (int n = 0; n < 6; n++) {
            due.is("listener " + n, Bench.listener(x, n), (10 + n) + " " + n + " 0 0 1 0");
        }
        due.refuses("a seventh", STATE, () -> withListeners(6), y -> y.addListener(90, 0));
        Bench.send(x, 0, 15, 77);
        x.finish();
        due.is("the sixth one stores", Bench.memory(x, 5), "77");
    }

    private void differentAddresses() {
        for (int n = 0; n < 3; n++) {
            int address = 10 + n;
            due.refuses("the address of listener " + n, STATE, () -> withListeners(3), x -> x.addListener(address, 5));
        }
        due.is("the address before the first", withListeners(3).addListener(9, 0), 3);
        due.is("the address behind the last", withListeners(3).addListener(13, 0), 3);
    }

    private void holds() {
        for (int hold : new int[] {0, 1, 8, 9}) {
            TwoWires x = new TwoWires();
            x.addListener(5, hold);
            Bench.send(x, 0, 5, 1);
            x.finish();
            due.is("hold", x.listener(0, 1), hold);
            due.is("slots held", x.listener(0, 5), hold);
        }
        due.refuses("a hold of -1", ARGUMENT, TwoWires::new, x -> x.addListener(5, -1));
        due.refuses("a hold of 10", ARGUMENT, TwoWires::new, x -> x.addListener(5, 10));
    }

    private void sixteenBytes() {
        TwoWires x = new TwoWires();
        x.addListener(5, 0);
        for (int stored = 1; stored <= 16; stored++) {
            Bench.send(x, 0, 5, 100 + stored);
            x.finish();
            due.is("bytes", x.listener(0, 2), stored);
            due.is("the last one", x.memory(0, stored - 1), 100 + stored);
        }
        due.is("all were DELIVERED", x.caller(0, 1), 16);
        Bench.send(x, 0, 5, 117);
        x.finish();
        due.is("the seventeenth is REFUSED", x.caller(0, 3), 1);
        due.is("bytes", x.listener(0, 2), 16);
        due.is("the last one", x.memory(0, 15), 116);
    }

    private void emptyAtFirst() {
        TwoWires x = new TwoWires();
        x.addListener(5, 0);
        due.is("bytes", x.listener(0, 2), 0);
        due.refuses("memory(0, 0)", INDEX, x, () -> x.memory(0, 0));
    }

    private void pointerAtFirst() {
        TwoWires x = new TwoWires();
        x.addListener(5, 0);
        due.is("the pointer", x.listener(0, 3), 0);
        Bench.send(x, 0, 5, 33, 44);
        x.finish();
        due.is("the pointer behind a write", x.listener(0, 3), 0);
        x.read(0, 5, 1);
        x.finish();
        due.is("the first byte read", x.caller(0, 7), 33);
    }

    private void onAtFirst() {
        TwoWires x = new TwoWires();
        x.addListener(5, 0);
        due.is("on", x.listener(0, 4), 1);
        Bench.send(x, 0, 5, 1);
        x.finish();
        due.is("it answered", x.caller(0, 1), 1);
        x.turn(0, false);
        due.is("off", x.listener(0, 4), 0);
        Bench.send(x, 0, 5, 1);
        x.finish();
        due.is("it did not answer", x.caller(0, 2), 1);
        x.turn(0, true);
        due.is("on again", x.listener(0, 4), 1);
        Bench.send(x, 0, 5, 1);
        x.finish();
        due.is("it answered again", x.caller(0, 1), 2);
    }

    private void limitRange() {
        for (int limit : new int[] {1, 2, 8, 9}) {
            TwoWires x = new TwoWires();
            x.setLimit(limit);
            due.is("the limit", x.value(3), limit);
        }
        due.refuses("setLimit(0)", ARGUMENT, TwoWires::new, x -> x.setLimit(0));
        due.refuses("setLimit(10)", ARGUMENT, TwoWires::new, x -> x.setLimit(10));
    }

    private void limitAtFirst() {
        due.is("the limit", new TwoWires().value(3), 4);
        TwoWires x = new TwoWires();
        x.read(1, 9, 1);
        lose(x, 3);
        due.is("LOST behind 3 losses", x.caller(1, 4), 0);
        lose(x, 1);
        due.is("LOST behind 4 losses", x.caller(1, 4), 1);
    }

    /** The first message of caller 1 loses so often. */
    private static void lose(TwoWires x, int times) {
        for (int i = 0; i < times; i++) {
            x.write(0, 0, 1, 0);
            x.pass(11);
        }
    }

    private void lostAtTheLimit() {
        for (int limit = 1; limit <= 9; limit++) {
            TwoWires x = new TwoWires();
            x.setLimit(limit);
            x.read(1, 9, 1);
            lose(x, limit - 1);
            due.is("LOST before the limit " + limit, x.caller(1, 4), 0);
            due.is("messages before the limit " + limit, x.caller(1, 0), 1);
            lose(x, 1);
            due.is("LOST at the limit " + limit, x.caller(1, 4), 1);
            due.is("messages at the limit " + limit, x.caller(1, 0), 0);
            due.is("losses at the limit " + limit, x.caller(1, 5), limit);
        }
    }

    /** Caller 1 has a message that has lost three times, and a limit that was set then. */
    private static TwoWires withLossesAndLimit(int limit) {
        TwoWires x = new TwoWires();
        x.read(1, 9, 1);
        lose(x, 3);
        x.setLimit(limit);
        return x;
    }

    private void lostBeyondTheLimit() {
        for (int limit = 1; limit <= 4; limit++) {
            TwoWires x = withLossesAndLimit(limit);
            due.is("messages before the fourth loss", x.caller(1, 0), 1);
            lose(x, 1);
            due.is("LOST at the fourth loss, limit " + limit, x.caller(1, 4), 1);
        }
        TwoWires x = withLossesAndLimit(5);
        lose(x, 1);
        due.is("LOST at the fourth loss, limit 5", x.caller(1, 4), 0);
        lose(x, 1);
        due.is("LOST at the fifth loss, limit 5", x.caller(1, 4), 1);
    }

    private void droppedAsItLoses() {
        TwoWires x = withLossesAndLimit(1);
        due.is("setLimit() drops nothing", x.caller(1, 0), 1);
        x.pass(9);
        due.is("winning the header drops nothing", x.caller(1, 0), 1);
        TwoWires y = withLossesAndLimit(1);
        y.write(0, 0, 1, 0);
        y.pass(4);
        due.is("messages before the bit that loses", y.caller(1, 0), 1);
        due.is("LOST before the bit that loses", y.caller(1, 4), 0);
        y.pass(1);
        due.is("messages at the bit that loses", y.caller(1, 0), 0);
        due.is("LOST at the bit that loses", y.caller(1, 4), 1);
    }

    private void none() {
        due.is("NONE", TwoWires.NONE, -1);
        TwoWires x = new TwoWires();
        due.is("no byte received", x.caller(0, 7), TwoWires.NONE);
        due.is("no listener takes part", x.value(8), TwoWires.NONE);
        due.is("no message", x.alone(0), TwoWires.NONE);
    }
}
