/** 'Terms', from the slots to the stop: what happens on the bus, slot by slot. */
final class SlotSentences {
    private static final Class<IllegalStateException> STATE = IllegalStateException.class;

    private final Due due;

    private SlotSentences(Due due) {
        this.due = due;
    }

    static void run(Sentences s) {
        SlotSentences t = new SlotSentences(s.due);
        s.section("Terms");
        s.saysNothing("Slots.");
        t.slots(s);
        t.headerSlots(s);
        t.byteSlots(s);
        t.readSlots(s);
        t.endSlots(s);
    }

    private void slots(Sentences s) {
        s.holds("Time goes by slots, numbered from 0; the present slot is the number of slots that have passed.",
                this::presentSlot);
        s.holds("In each slot one thing happens on the bus, and the data line has the level 0 or 1.", this::oneThingASlot);
        s.holds("The contenders are the callers that send or receive at present, each with the first message of its"
                + " queue.", this::firstMessagesContend);
        s.holds("- Idle. While the bus is idle, a slot begins with all callers that have a message.", this::allBegin);
        s.holds("If there are none, the slot is an idle slot, with the level 1.", this::idleSlot);
        s.holds("Otherwise they are the contenders, the slot is a start slot, with the level 0, and the next slot is the"
                + " first bit of the header.", this::startSlot);
    }

    private void headerSlots(Sentences s) {
        s.holds("- A bit of the header, or of a byte of a write. Each contender sends its bit; the level is 1 if all of"
                + " them send 1, otherwise 0.", this::levelOfBits);
        s.holds("A contender that sends 1 while the level is 0 loses: it is no contender any more, and its message counts"
                + " one loss more;", this::losingABit);
        s.holds("if that makes it LOST, the message leaves the queue.", this::lostLeaves);
        s.holds("(There is always a contender left, and all that are left have sent the same bits.)", this::oneIsLeft);
        s.holds("Behind 8 bits there is an answer slot.", this::answerBehindEightBits);
        s.holds("- The answer to the header. If a listener with this address is on, the level is 0,", this::headerAnswered);
        s.holds("and this listener takes part until the stop slot has passed;", this::takesPart);
        s.holds("it holds the line. Otherwise the level is 1:", this::headerNotAnswered);
        s.holds("the messages of all contenders leave their queues with NO_ANSWER, these callers are no contenders any"
                + " more, and the next slot is a stop slot.", this::noAnswer);
    }

    private void byteSlots(Sentences s) {
        s.holds("- The answer to a byte of a write. If the memory of the listener has fewer than 16 bytes, the byte is"
                + " stored behind them and the level is 0;", this::storedByte);
        s.holds("otherwise the level is 1: the messages of all contenders leave their queues with REFUSED, these callers"
                + " are no contenders any more, and the next slot is a stop slot.", this::refusedByte);
        s.holds("If it was stored, the messages of the contenders that have no more bytes leave their queues with"
                + " DELIVERED, and these callers are no contenders any more.", this::deliveredWrite);
        s.holds("If no contender is left, the next slot is a stop slot; otherwise the listener holds the line.",
                this::stopOrHold);
    }

    private void readSlots(Sentences s) {
        s.holds("- A bit of a byte of a read. The listener sends it, and this is the level: it is a bit of the byte of its"
                + " memory at the place pointer, or of 255 if its memory is empty.", this::bitOfRead);
        s.holds("Behind 8 bits the pointer grows by 1,", this::pointerGrows);
        s.holds("and is 0 again when it reaches the number of bytes in the memory", this::pointerWraps);
        s.holds("(it stays 0 if this is empty);", this::pointerOfEmpty);
        s.holds("each contender has received the byte that these 8 levels make.", this::receivedByte);
        s.holds("Then there is an answer slot.", this::answerBehindReadByte);
        s.holds("- The answer to a byte of a read. Each contender that has not received all its bytes sends 0, the others"
                + " send 1; the level is 0 if one of them sends 0, otherwise 1.", this::levelOfReadAnswer);
        s.holds("Those that have received all their bytes are no contenders any more, and their messages leave their"
                + " queues with DELIVERED.", this::deliveredRead);
    }

    private void endSlots(Sentences s) {
        s.holds("- Holding. When the listener holds the line, as many slots as its hold tells follow, with the level 0,",
                this::heldSlots);
        s.holds("in which nothing else happens;", this::nothingElseWhileHeld);
        s.holds("behind them the next byte begins with its first bit.", this::firstBitBehindHold);
        s.holds("- Stop. A stop slot has the level 1; behind it the bus is idle.", this::stopSlot);
        s.holds("A listener that is switched off while it takes part goes on until the end of this transfer.",
                this::switchedOffGoesOn);
    }

    private void presentSlot() {
        TwoWires x = new TwoWires();
        due.is("the present slot at first", x.value(0), 0);
        x.pass(1);
        due.is("the present slot behind the first slot", x.value(0), 1);
        x.write(0, 5, 1, 0);
        due.is("a call that lets no slot pass", x.value(0), 1);
        due.is("finish()", x.finish(), 11);
        due.is("the present slot behind finish()", x.value(0), 12);
        x.pass(200);
        due.is("the present slot behind pass(200)", x.value(0), 212);
    }

    private void oneThingASlot() {
        TwoWires x = Bench.midway();
        for (int slot = 0; slot < 300; slot++) {
            x.pass(1);
            int level = x.log(0, 0);
            int kind = x.log(0, 2);
            due.holds("level 0 or 1", level == 0 || level == 1);
            due.holds("one of 8 kinds", kind >= 0 && kind <= 7);
            due.is("the level of the last slot", x.value(9), level);
        }
    }

    private void firstMessagesContend() {
        TwoWires x = new TwoWires();
        x.write(0, 9, 1, 0);
        x.write(0, 0, 1, 0);
        x.write(1, 8, 1, 0);
        x.write(1, 100, 1, 0);
        x.pass(9);
        due.is("the contender with the lower first message is left", x.value(5), 2);
        due.is("contender 0", x.caller(0, 8), 0);
        due.is("contender 1", x.caller(1, 8), 1);
        x.pass(1);
        due.is("its first message has left", x.message(1, 0, 0), 100);
        due.is("the other's first message has not", x.message(0, 0, 0), 9);
        due.is("none at the stop slot", x.value(5), 0);
    }

    private void allBegin() {
        for (int set = 1; set <= 7; set++) {
            TwoWires x = Bench.with(3);
            for (int c = 0; c < 3; c++) {
                if ((set >> c & 1) == 1) {
                    x.write(c, 9, 1, 0);
                }
            }
            x.pass(1);
            due.is("the contenders", x.value(5), set);
        }
        TwoWires x = Bench.with(3);
        x.write(0, 9, 1, 0);
        x.pass(1);
        x.write(1, 9, 1, 0);
        x.pass(1);
        due.is("who comes behind the start slot does not begin", x.value(5), 1);
        x.pass(9);
        due.is("the bus is idle", x.value(4), 1);
        x.write(2, 9, 1, 0);
        x.pass(1);
        due.is("then both begin", x.value(5), 6);
    }

    private void idleSlot() {
        TwoWires x = new TwoWires();
        x.pass(1);
        due.is("kind", x.log(0, 2), 0);
        due.is("level", x.log(0, 0), 1);
        due.is("contenders", x.log(0, 1), 0);
        due.is("the bus is still idle", x.value(4), 1);
        due.is("slots that were not idle", x.value(6), 0);
    }

    private void startSlot() {
        for (int address : new int[] {0, 63, 64, 127}) {
            TwoWires x = new TwoWires();
            x.write(1, address, 1, 0);
            due.is("the bus is idle before", x.value(4), 1);
            x.pass(1);
            due.is("the bus is not idle behind", x.value(4), 0);
            due.is("the contenders", x.value(5), 2);
            x.pass(1);
            due.is("kinds", Bench.kinds(x, 2), "12");
            due.is("levels", Bench.levels(x, 2), address < 64 ? "00" : "01");
        }
    }

    /** The first bits of headers or, if they have the same address, of first bytes. */
    private static TwoWires three(int a, int b, int c) {
        TwoWires x = Bench.with(3);
        x.write(0, a, 1, 0);
        x.write(1, b, 1, 0);
        x.write(2, c, 1, 0);
        x.pass(2);
        return x;
    }

    private static TwoWires threeBytes(int a, int b, int c) {
        TwoWires x = Bench.with(3);
        x.addListener(5, 0);
        Bench.send(x, 0, 5, a);
        Bench.send(x, 1, 5, b);
        Bench.send(x, 2, 5, c);
        x.pass(11);
        return x;
    }

    private void levelOfBits() {
        for (int set = 0; set <= 7; set++) {
            int[] bits = {set & 1, set >> 1 & 1, set >> 2 & 1};
            TwoWires x = three(64 * bits[0], 64 * bits[1], 64 * bits[2]);
            due.is("level of the header's first bit", x.log(0, 0), set == 7 ? 1 : 0);
            due.is("contenders behind it", x.value(5), set == 7 ? 7 : 7 - set);
            TwoWires y = threeBytes(128 * bits[0], 128 * bits[1], 128 * bits[2]);
            due.is("level of a byte's first bit", y.log(0, 0), set == 7 ? 1 : 0);
            due.is("contenders behind it", y.value(5), set == 7 ? 7 : 7 - set);
        }
    }

    private void losingABit() {
        losesAt("the first bit of the header", 2, 64, 1, 0);
        losesAt("the last but one bit of the header", 8, 1, 1, 0);
        losesAt("the first bit of the first byte", 11, 0, 1, 128);
        losesAt("the last bit of the first byte", 18, 0, 1, 1);
        losesAt("the first bit of the last byte", 38, 0, 4, 128);
        losesAt("the last bit of the last byte", 45, 0, 4, 1);
        TwoWires x = new TwoWires();
        x.write(0, 7, 1, 0);
        x.read(1, 7, 1);
        x.pass(8);
        due.is("both before the last bit of the header", x.value(5), 3);
        x.pass(1);
        due.is("a read loses against a write", x.value(5), 1);
    }

    /** Caller 0 sends zeros to the address 0; the other caller's last byte or address differs from that. */
    private void losesAt(String bit, int slots, int address, int count, int lastByte) {
        TwoWires x = new TwoWires();
        x.addListener(0, 0);
        x.write(0, 0, count, 0);
        x.write(1, address, count, lastByte);
        x.write(1, 0, 1, 0);
        x.pass(slots - 1);
        due.is("contenders before " + bit, x.value(5), 3);
        due.is("no loss before " + bit, x.message(1, 0, 3), 0);
        x.pass(1);
        due.is("level of " + bit, x.log(0, 0), 0);
        due.is("contenders behind " + bit, x.value(5), 1);
        due.is("the log tells them", x.log(0, 1), 1);
        due.is("the message's losses behind " + bit, x.message(1, 0, 3), 1);
        due.is("the caller's losses behind " + bit, x.caller(1, 5), 1);
        due.is("the other message's losses", x.message(1, 1, 3), 0);
        due.is("the winner's losses", x.message(0, 0, 3), 0);
        due.is("the message stays", x.caller(1, 0), 2);
        x.pass(8);
        due.is("it loses once in a transfer", x.caller(1, 5), 1);
    }

    private void lostLeaves() {
        TwoWires x = new TwoWires();
        x.addListener(0, 0);
        x.setLimit(1);
        Bench.send(x, 0, 0, 6);
        Bench.send(x, 1, 0, 7);
        Bench.send(x, 1, 0, 8);
        x.pass(17);
        due.is("messages before the bit", x.caller(1, 0), 2);
        x.pass(1);
        due.is("messages behind the bit", x.caller(1, 0), 1);
        due.is("LOST", x.caller(1, 4), 1);
        due.is("the second one is the first one now", x.message(1, 0, 4), 8);
        due.is("it has no loss", x.message(1, 0, 3), 0);
        x.finish();
        due.is("memory", Bench.memory(x, 0), "6 8");
        due.is("outcome", Bench.caller(x, 1), "0 1 0 0 1 1 0 -1 0");
    }

    private void oneIsLeft() {
        TwoWires x = Bench.with(3);
        x.addListener(5, 1);
        x.setLimit(1);
        Bench.send(x, 0, 5, 0x80, 0x7F);
        Bench.send(x, 1, 5, 0x80, 0x80);
        Bench.send(x, 2, 5, 0x81, 0x00);
        x.pass(31);
        due.is("the contenders of all slots", Bench.contenders(x, 31),
                "7" + "77777777" + "7" + "7" + "77777773" + "3" + "3" + "11111111" + "00");
        due.is("the bytes are those of the last one", Bench.memory(x, 0), "128 127");
    }

    private void answerBehindEightBits() {
        TwoWires x = new TwoWires();
        x.addListener(5, 0);
        Bench.send(x, 0, 5, 1, 2);
        x.finish();
        due.is("kinds", Bench.kinds(x, 29), "1" + "22222222" + "3" + "44444444" + "5" + "44444444" + "5" + "7");
    }

    private void headerAnswered() {
        for (int address : new int[] {0, 5, 127}) {
            for (int kind = 0; kind < 2; kind++) {
                TwoWires x = new TwoWires();
                x.addListener(9, 0);
                x.addListener(address, 0);
                if (kind == 0) {
                    x.write(0, address, 1, 0);
                } else {
                    x.read(0, address, 1);
                }
                x.pass(10);
                due.is("kind", x.log(0, 2), 3);
                due.is("level", x.log(0, 0), 0);
                due.is("listener", x.value(8), 1);
                due.is("it still contends", x.value(5), 1);
            }
        }
    }

    private void takesPart() {
        TwoWires x = new TwoWires();
        x.addListener(9, 0);
        x.addListener(5, 1);
        Bench.send(x, 0, 5, 1);
        x.pass(9);
        due.is("before the answer", x.value(8), -1);
        x.pass(1);
        due.is("behind the answer", x.value(8), 1);
        x.pass(1);
        due.is("behind the held slot", x.value(8), 1);
        x.pass(9);
        due.is("before the stop slot", x.value(8), 1);
        x.pass(1);
        due.is("behind the stop slot", x.value(8), -1);
        TwoWires y = new TwoWires();
        y.addListener(5, 0);
        Bench.store(y, 5, 16);
        Bench.send(y, 0, 5, 1);
        y.pass(19);
        due.is("before the stop slot behind a refusal", y.value(8), 0);
        y.pass(1);
        due.is("behind the stop slot behind a refusal", y.value(8), -1);
    }

    private void headerNotAnswered() {
        for (int hold : new int[] {0, 2}) {
            TwoWires x = new TwoWires();
            x.addListener(5, hold);
            x.turn(0, false);
            notAnswered("a listener that is off", x, 5);
            x.turn(0, true);
            notAnswered("the address below", x, 4);
            notAnswered("the address above", x, 6);
            x.write(0, 5, 1, 0);
            x.pass(10);
            due.is("level of one that is on", x.log(0, 0), 0);
            x.pass(1);
            due.is("it holds the line", x.log(0, 2), hold == 0 ? 4 : 6);
        }
        TwoWires z = new TwoWires();
        notAnswered("no listeners", z, 0);
        notAnswered("no listeners", z, 127);
    }

    private void notAnswered(String what, TwoWires x, int address) {
        x.read(0, address, 1);
        x.pass(10);
        due.is("level with " + what, x.log(0, 0), 1);
        due.is("kind with " + what, x.log(0, 2), 3);
        due.is("none takes part with " + what, x.value(8), -1);
        x.pass(1);
        due.is("the stop slot with " + what, x.log(0, 2), 7);
    }

    private void noAnswer() {
        TwoWires x = Bench.with(3);
        x.read(0, 7, 4);
        x.read(0, 6, 2);
        x.read(1, 7, 1);
        x.read(2, 8, 1);
        x.pass(9);
        due.is("contenders before the answer", x.value(5), 3);
        x.pass(1);
        due.is("contenders behind the answer", x.value(5), 0);
        due.is("the log tells it", x.log(0, 1), 0);
        due.is("caller 0", Bench.caller(x, 0), "1 0 1 0 0 0 0 -1 0");
        due.is("caller 1", Bench.caller(x, 1), "0 0 1 0 0 0 0 -1 0");
        due.is("caller 2, who had lost", Bench.caller(x, 2), "1 0 0 0 0 1 0 -1 0");
        due.is("the second message moves up", x.message(0, 0, 0), 6);
        due.is("not idle yet", x.value(4), 0);
        x.pass(1);
        due.is("the next slot", x.log(0, 2), 7);
        due.is("idle", x.value(4), 1);
    }

    private void storedByte() {
        TwoWires x = new TwoWires();
        x.addListener(5, 0);
        for (int stored = 0; stored < 16; stored++) {
            Bench.send(x, 0, 5, 255 - stored);
            x.pass(18);
            due.is("bytes before the answer", x.listener(0, 2), stored);
            x.pass(1);
            due.is("bytes behind the answer", x.listener(0, 2), stored + 1);
            due.is("the byte", x.memory(0, stored), 255 - stored);
            due.is("the first byte stays", x.memory(0, 0), 255);
            due.is("level", x.log(0, 0), 0);
            due.is("kind", x.log(0, 2), 5);
            x.finish();
        }
    }

    private void refusedByte() {
        TwoWires x = Bench.with(3);
        x.addListener(5, 1);
        Bench.store(x, 5, 15);
        Bench.send(x, 0, 5, 99, 98, 97);
        Bench.send(x, 1, 5, 99, 98);
        Bench.send(x, 2, 5, 100);
        x.pass(20);
        due.is("the sixteenth byte is answered with", x.log(0, 0), 0);
        x.pass(9);
        due.is("contenders before the answer", x.value(5), 3);
        x.pass(1);
        due.is("level", x.log(0, 0), 1);
        due.is("kind", x.log(0, 2), 5);
        due.is("contenders behind the answer", x.value(5), 0);
        due.is("caller 0", Bench.caller(x, 0), "0 15 0 1 0 0 0 -1 0");
        due.is("caller 1, whose last byte it was", Bench.caller(x, 1), "0 0 0 1 0 0 0 -1 0");
        due.is("caller 2, who had lost", Bench.caller(x, 2), "1 0 0 0 0 1 0 -1 0");
        due.is("the bytes", Bench.memory(x, 0), "1 2 3 4 5 6 7 8 9 10 11 12 13 14 15 99");
        x.pass(1);
        due.is("the next slot", x.log(0, 2), 7);
    }

    private void deliveredWrite() {
        TwoWires x = Bench.with(3);
        x.addListener(5, 0);
        Bench.send(x, 0, 5, 1);
        Bench.send(x, 1, 5, 1, 2);
        Bench.send(x, 2, 5, 1, 2, 3, 4);
        x.pass(18);
        due.is("DELIVERED before the answer", x.caller(0, 1), 0);
        due.is("contenders before the answer", x.value(5), 7);
        x.pass(1);
        due.is("DELIVERED behind the answer", x.caller(0, 1), 1);
        due.is("its queue", x.caller(0, 0), 0);
        due.is("contenders behind the first byte", x.value(5), 6);
        x.pass(9);
        due.is("contenders behind the second byte", x.value(5), 4);
        due.is("DELIVERED behind the second byte", x.caller(1, 1), 1);
        due.is("caller 2 goes on", x.caller(2, 1), 0);
        x.pass(9);
        due.is("contenders behind the third byte", x.value(5), 4);
        x.pass(9);
        due.is("contenders behind the fourth byte", x.value(5), 0);
        due.is("DELIVERED behind the fourth byte", x.caller(2, 1), 1);
        due.is("all bytes once", Bench.memory(x, 0), "1 2 3 4");
        due.is("no losses", x.caller(0, 5) + x.caller(1, 5) + x.caller(2, 5), 0);
    }

    /** The sentence stands twice: behind a byte of a write, and behind one of a read. */
    private void stopOrHold() {
        for (int kind = 0; kind < 2; kind++) {
            TwoWires x = new TwoWires();
            x.addListener(5, 1);
            for (int c = 0; c < 2; c++) {
                if (kind == 0) {
                    x.write(c, 5, c + 1, 0);
                } else {
                    x.read(c, 5, c + 1);
                }
            }
            x.finish();
            due.is("kinds", Bench.kinds(x, 31), "1" + "22222222" + "3" + "6" + "44444444" + "5" + "6" + "44444444" + "5"
                    + "7");
        }
        TwoWires y = new TwoWires();
        y.addListener(5, 2);
        y.read(0, 5, 1);
        y.finish();
        due.is("none is held behind the last byte", Bench.kinds(y, 22), "1" + "22222222" + "3" + "66" + "44444444" + "5"
                + "7");
    }

    private void bitOfRead() {
        TwoWires x = new TwoWires();
        x.addListener(5, 0);
        x.read(0, 5, 1);
        x.pass(18);
        due.is("bits of an empty memory", Bench.levels(x, 8), "11111111");
        due.is("kinds", Bench.kinds(x, 8), "44444444");
        x.finish();
        Bench.send(x, 0, 5, 0, 0xA5, 0x5A);
        x.finish();
        for (String want : new String[] {"00000000", "10100101", "01011010", "00000000"}) {
            x.read(1, 5, 1);
            x.pass(18);
            due.is("bits", Bench.levels(x, 8), want);
            x.finish();
        }
        TwoWires y = new TwoWires();
        y.addListener(5, 0);
        Bench.send(y, 0, 5, 0);
        y.finish();
        y.read(0, 5, 1);
        y.pass(14);
        y.empty(0);
        y.pass(4);
        due.is("bits of a memory that is emptied behind four of them", Bench.levels(y, 8), "00001111");
        y.undo();
        y.undo();
        y.pass(4);
        due.is("bits if it is not", Bench.levels(y, 8), "00000000");
    }

    private void pointerGrows() {
        TwoWires x = new TwoWires();
        x.addListener(5, 3);
        Bench.send(x, 0, 5, 1, 2, 3);
        x.finish();
        x.read(0, 5, 2);
        x.pass(10 + 3 + 7);
        due.is("behind 7 bits", x.listener(0, 3), 0);
        x.pass(1);
        due.is("behind 8 bits", x.listener(0, 3), 1);
        x.pass(1 + 3 + 7);
        due.is("behind the answer, and 7 bits more", x.listener(0, 3), 1);
        x.pass(1);
        due.is("behind 16 bits", x.listener(0, 3), 2);
        due.is("once for two who receive", pointerBehindSharedRead(), 1);
    }

    private static int pointerBehindSharedRead() {
        TwoWires x = new TwoWires();
        x.addListener(5, 0);
        Bench.send(x, 0, 5, 1, 2, 3);
        x.finish();
        x.read(0, 5, 1);
        x.read(1, 5, 1);
        x.finish();
        return x.listener(0, 3);
    }

    private void pointerWraps() {
        for (int size : new int[] {1, 2, 15, 16}) {
            TwoWires x = new TwoWires();
            x.addListener(5, 0);
            Bench.store(x, 5, size);
            for (int read = 0; read < 2 * size + 1; read++) {
                due.is("the pointer, of " + size, x.listener(0, 3), read % size);
                x.read(0, 5, 1);
                x.finish();
                due.is("the byte, of " + size, x.caller(0, 7), read % size + 1);
            }
        }
        TwoWires y = new TwoWires();
        y.addListener(5, 0);
        Bench.send(y, 0, 5, 11, 22, 33);
        y.finish();
        y.read(0, 5, 4);
        y.finish();
        due.is("the pointer, round within one message", y.listener(0, 3), 1);
        due.is("the byte, round within one message", y.caller(0, 7), 11);
    }

    private void pointerOfEmpty() {
        TwoWires x = new TwoWires();
        x.addListener(5, 0);
        x.read(0, 5, 4);
        for (int i = 0; i < 46; i++) {
            x.pass(1);
            due.is("the pointer", x.listener(0, 3), 0);
        }
        due.is("four times 255", Bench.caller(x, 0), "0 1 0 0 0 0 4 255 0");
        Bench.send(x, 0, 5, 7, 8);
        x.read(0, 5, 1);
        x.finish();
        due.is("then the first byte is read", x.caller(0, 7), 7);
    }

    private void receivedByte() {
        TwoWires x = Bench.with(3);
        x.addListener(5, 0);
        Bench.send(x, 0, 5, 0xA5, 0);
        x.finish();
        x.read(0, 5, 1);
        x.read(1, 5, 2);
        x.read(2, 6, 1);
        x.pass(17);
        due.is("bytes behind 7 bits", x.caller(0, 6), 0);
        x.pass(1);
        due.is("bytes behind 8 bits", x.caller(0, 6), 1);
        due.is("the byte", x.caller(0, 7), 0xA5);
        due.is("the other's byte", x.caller(1, 7), 0xA5);
        due.is("the one who lost has none", x.caller(2, 6), 0);
        x.pass(9);
        due.is("the other's second byte", x.caller(1, 7), 0);
        due.is("its bytes", x.caller(1, 6), 2);
        due.is("the first one's bytes", x.caller(0, 6), 1);
        due.is("the first one's last byte", x.caller(0, 7), 0xA5);
    }

    private void answerBehindReadByte() {
        TwoWires x = new TwoWires();
        x.addListener(5, 0);
        x.read(0, 5, 2);
        x.finish();
        due.is("kinds", Bench.kinds(x, 29), "1" + "22222222" + "3" + "44444444" + "5" + "44444444" + "5" + "7");
    }

    private void levelOfReadAnswer() {
        due.is("one of one", answerOfReads(1), 1);
        due.is("one of two", answerOfReads(2), 0);
        due.is("one of four", answerOfReads(4), 0);
        due.is("both all", answerOfReads(1, 1), 1);
        due.is("one of both all", answerOfReads(1, 2), 0);
        due.is("the other one of both all", answerOfReads(3, 1), 0);
        due.is("none all", answerOfReads(2, 2), 0);
        due.is("two of three all", answerOfReads(1, 4, 1), 0);
        due.is("three all", answerOfReads(1, 1, 1), 1);
        TwoWires x = new TwoWires();
        x.addListener(5, 0);
        x.read(0, 5, 4);
        x.finish();
        due.is("the answers of a read of 4", "" + x.log(28, 0) + x.log(19, 0) + x.log(10, 0) + x.log(1, 0), "0001");
    }

    private static int answerOfReads(int... counts) {
        TwoWires x = Bench.with(counts.length);
        x.addListener(5, 0);
        for (int c = 0; c < counts.length; c++) {
            x.read(c, 5, counts[c]);
        }
        x.pass(19);
        return x.log(0, 2) == 5 ? x.log(0, 0) : -1;
    }

    private void deliveredRead() {
        TwoWires x = new TwoWires();
        x.addListener(5, 0);
        x.read(0, 5, 1);
        x.read(0, 5, 3);
        x.read(1, 5, 2);
        x.pass(18);
        due.is("contenders before the answer", x.value(5), 3);
        due.is("DELIVERED before the answer", x.caller(0, 1), 0);
        x.pass(1);
        due.is("contenders behind the answer", x.value(5), 2);
        due.is("DELIVERED behind the answer", x.caller(0, 1), 1);
        due.is("the next message moves up", x.message(0, 0, 2), 3);
        due.is("the other is not DELIVERED yet", x.caller(1, 1), 0);
        x.pass(9);
        due.is("contenders behind the second answer", x.value(5), 0);
        due.is("now it is", x.caller(1, 1), 1);
    }

    private void heldSlots() {
        for (int hold : new int[] {0, 1, 9}) {
            TwoWires x = new TwoWires();
            x.addListener(5, hold);
            Bench.send(x, 0, 5, 255);
            x.finish();
            int slots = 20 + hold;
            String held = "000000000".substring(0, hold);
            due.is("slots with the hold " + hold, x.value(0), slots);
            due.is("levels with the hold " + hold, Bench.levels(x, slots),
                    "0" + "00001010" + "0" + held + "11111111" + "0" + "1");
            due.is("kinds with the hold " + hold, Bench.kinds(x, slots),
                    "1" + "22222222" + "3" + held.replace('0', '6') + "44444444" + "5" + "7");
            due.is("slots held", x.listener(0, 5), hold);
            due.is("slots in which the line was held", x.value(7), hold);
        }
    }

    private void nothingElseWhileHeld() {
        TwoWires x = new TwoWires();
        x.addListener(5, 9);
        Bench.send(x, 0, 5, 1, 2);
        x.finish();
        x.read(0, 5, 2);
        x.read(1, 5, 2);
        x.pass(10);
        String before = stillOf(x);
        x.write(1, 0, 1, 0);
        for (int held = 1; held <= 9; held++) {
            x.pass(1);
            due.is("kind", x.log(0, 2), 6);
            due.is("all but the held slots", stillOf(x), before);
            due.is("held slots", x.listener(0, 5), 18 + held);
        }
        due.refuses("a contender stays one", STATE, x, () -> x.cancel(0));
        x.pass(1);
        due.is("kind behind it", x.log(0, 2), 4);
    }

    /** What may not change while the line is held. */
    private static String stillOf(TwoWires x) {
        return x.value(5) + " " + x.value(8) + " " + Bench.caller(x, 0) + " " + x.caller(1, 6) + " " + x.caller(1, 8) + " "
                + x.listener(0, 3) + " " + Bench.memory(x, 0);
    }

    private void firstBitBehindHold() {
        TwoWires x = new TwoWires();
        x.addListener(5, 2);
        Bench.send(x, 0, 5, 128, 128);
        x.pass(13);
        due.is("behind the header's answer", Bench.kinds(x, 4) + " " + Bench.levels(x, 4), "3664 0001");
        x.pass(11);
        due.is("behind a byte's answer", Bench.kinds(x, 4) + " " + Bench.levels(x, 4), "5664 0001");
    }

    private void stopSlot() {
        TwoWires x = new TwoWires();
        x.addListener(5, 0);
        Bench.send(x, 0, 5, 1);
        x.read(0, 5, 1);
        x.pass(19);
        due.is("before the stop slot the bus is not idle", x.value(4), 0);
        x.pass(1);
        due.is("kind", x.log(0, 2), 7);
        due.is("level", x.log(0, 0), 1);
        due.is("behind the stop slot the bus is idle", x.value(4), 1);
        x.pass(1);
        due.is("the next slot may be a start slot", x.log(0, 2), 1);
    }

    private void switchedOffGoesOn() {
        TwoWires x = new TwoWires();
        x.addListener(5, 1);
        Bench.send(x, 0, 5, 1, 2);
        x.read(0, 5, 1);
        x.pass(10);
        x.turn(0, false);
        x.pass(20);
        due.is("it stores", Bench.memory(x, 0), "1 2");
        due.is("it holds", x.listener(0, 5), 2);
        due.is("it takes part up to the stop slot", x.value(8), 0);
        x.pass(1);
        due.is("and not behind it", x.value(8), -1);
        x.finish();
        due.is("it does not answer in the next transfer", Bench.caller(x, 0), "0 1 1 0 0 0 0 -1 0");
        x.turn(0, true);
        x.read(0, 5, 2);
        x.pass(15);
        x.turn(0, false);
        x.finish();
        due.is("it sends what is read", Bench.caller(x, 0), "0 2 1 0 0 0 2 2 0");
        x.turn(0, true);
        x.read(0, 5, 1);
        x.pass(9);
        x.turn(0, false);
        x.finish();
        due.is("off before the answer is off", x.caller(0, 2), 2);
    }
}
