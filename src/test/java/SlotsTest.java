/** Promises 10 and 11, and what the terms say of slots. */
public final class SlotsTest {
    private static final Due due = new Due("SlotsTest");

    public static void main(String[] args) {
        pass();
        finish();
        idleSlots();
        writeAlone();
        readAlone();
        noAnswer();
        refused();
        refusedTogether();
        lostHeader();
        lostByte();
        sharedWrite();
        shorterWriteLeaves();
        sharedRead();
        readOfNothing();
        pointerGoesRound();
        emptiedDuringRead();
        limitBelowLosses();
        queuedDuringTransfer();
        due.end();
    }

    private static void pass() {
        TwoWires x = new TwoWires();
        for (int wrong : new int[] {0, 201, -1, Integer.MIN_VALUE, Integer.MAX_VALUE}) {
            due.refuses("P10 pass(" + wrong + ")", IllegalArgumentException.class, x, () -> x.pass(wrong));
        }
        due.is("P10 pass(1)", x.pass(1), 1);
        due.is("P10 pass(200)", x.pass(200), 201);
        due.is("P10 undo()", x.undo(), 1);
        due.is("P10 undone", x.value(0), 1);
    }

    private static void finish() {
        TwoWires x = new TwoWires();
        due.is("P11 nothing to do", x.finish(), 0);
        due.is("P11 slots", x.value(0), 0);
        due.is("P11 it saves all the same", x.undo(), 0);
        x.addListener(2, 3);
        x.write(0, 2, 2, 5);
        x.write(1, 3, 1, 5);
        due.is("P11 finish()", x.finish(), 11 + 2 * 12 + 11);
        due.is("P11 idle", x.value(4), 1);
        due.is("P11 again", x.finish(), 0);
        x.undo();
        x.undo();
        due.is("P11 undone", x.value(0), 0);
        x.pass(11 + 2 * 12 + 10);
        due.is("P11 the stop slot alone", x.finish(), 1);
    }

    private static void idleSlots() {
        TwoWires x = new TwoWires();
        x.pass(3);
        due.holds("idle slots", Bench.levels(x, 3).equals("111") && Bench.kinds(x, 3).equals("000"));
        due.holds("idle values", Bench.values(x).equals("3 2 0 4 1 0 0 0 -1 1"));
    }

    private static void writeAlone() {
        TwoWires x = new TwoWires();
        x.addListener(0x55, 2);
        x.write(1, 0x55, 1, 0xC3);
        due.is("write", x.finish(), 22);
        due.holds("levels of a write", Bench.levels(x, 22).equals("0" + "10101010" + "0" + "00" + "11000011" + "0" + "1"));
        due.holds("kinds of a write", Bench.kinds(x, 22).equals("1" + "22222222" + "3" + "66" + "44444444" + "5" + "7"));
        due.holds("contenders of a write", Bench.contenders(x, 22).equals("22222222222222222222" + "00"));
        due.holds("caller", Bench.caller(x, 1).equals("0 1 0 0 0 0 0 -1 0"));
        due.holds("listener", Bench.listener(x, 0).equals("85 2 1 0 1 2") && x.memory(0, 0) == 0xC3);
        due.holds("values", Bench.values(x).equals("22 2 1 4 1 0 22 2 -1 1"));
    }

    private static void readAlone() {
        TwoWires x = new TwoWires();
        x.addListener(1, 0);
        x.write(0, 1, 2, 0x0FA0);
        x.finish();
        x.read(0, 1, 2);
        due.is("read", x.finish(), 29);
        due.holds("levels of a read",
                Bench.levels(x, 29).equals("0" + "00000011" + "0" + "00001111" + "0" + "10100000" + "1" + "1"));
        due.holds("kinds of a read",
                Bench.kinds(x, 29).equals("1" + "22222222" + "3" + "44444444" + "5" + "44444444" + "5" + "7"));
        due.holds("caller", Bench.caller(x, 0).equals("0 2 0 0 0 0 2 160 0"));
        due.is("pointer", x.listener(0, 3), 0);
    }

    private static void noAnswer() {
        TwoWires x = new TwoWires();
        x.write(0, 127, 4, 0);
        x.write(1, 127, 1, 0);
        x.pass(10);
        due.holds("levels", Bench.levels(x, 10).equals("0" + "11111110" + "1"));
        due.is("both left", x.value(5), 0);
        due.is("the stop slot is not idle", x.value(4), 0);
        due.is("NO_ANSWER 0", x.caller(0, 2), 1);
        due.is("NO_ANSWER 1", x.caller(1, 2), 1);
        due.is("queue", x.caller(0, 0), 0);
        due.is("stop", x.finish(), 1);
        due.holds("stop slot", x.log(0, 0) == 1 && x.log(0, 2) == 7);
    }

    private static void fill(TwoWires x, int bytes) {
        for (int i = 0; i < bytes; i++) {
            x.write(0, 9, 1, i);
            x.finish();
        }
    }

    private static void refused() {
        TwoWires x = new TwoWires();
        x.addListener(9, 1);
        fill(x, 15);
        x.write(0, 9, 3, 0x646566);
        due.is("refused at the second byte", x.finish(), 11 + 2 * 10);
        due.holds("levels", Bench.levels(x, 12).equals("0" + "0" + "01100101" + "1" + "1"));
        due.holds("outcome", Bench.caller(x, 0).equals("0 15 0 1 0 0 0 -1 0"));
        due.is("the byte before it is stored", x.memory(0, 15), 100);
        due.is("16 bytes", x.listener(0, 2), 16);
        x.write(0, 9, 1, 0);
        due.is("refused at the first byte", x.finish(), 11 + 10);
        due.is("REFUSED", x.caller(0, 3), 2);
    }

    private static void refusedTogether() {
        TwoWires x = new TwoWires();
        x.addListener(9, 0);
        fill(x, 16);
        x.write(0, 9, 1, 7);
        x.write(1, 9, 2, 0x0708);
        due.is("both are refused", x.finish(), 20);
        due.is("REFUSED 0", x.caller(0, 3), 1);
        due.is("REFUSED 1", x.caller(1, 3), 1);
        due.is("no loss", x.caller(1, 5), 0);
    }

    private static void lostHeader() {
        TwoWires x = new TwoWires();
        x.begin(3);
        x.write(0, 0x41, 1, 0);
        x.write(1, 0x40, 1, 0);
        x.read(2, 0x40, 1);
        x.pass(8);
        due.holds("contenders", Bench.contenders(x, 8).equals("77777776"));
        x.pass(1);
        due.is("the write wins", x.value(5), 2);
        due.is("loss of 0", x.message(0, 0, 3), 1);
        due.is("loss of 2", x.message(2, 0, 3), 1);
        due.is("no loss of 1", x.message(1, 0, 3), 0);
        due.is("finish", x.finish(), 2 + 11 + 11);
        due.holds("caller 0", Bench.caller(x, 0).equals("0 0 1 0 0 2 0 -1 0"));
        due.holds("caller 2", Bench.caller(x, 2).equals("0 0 1 0 0 1 0 -1 0"));
    }

    private static void lostByte() {
        TwoWires x = new TwoWires();
        x.addListener(9, 0);
        x.setLimit(1);
        x.write(0, 9, 2, 0x0A80);
        x.write(1, 9, 2, 0x0A7F);
        due.is("finish", x.finish(), 29);
        due.holds("caller 0", Bench.caller(x, 0).equals("0 0 0 0 1 1 0 -1 0"));
        due.holds("caller 1", Bench.caller(x, 1).equals("0 1 0 0 0 0 0 -1 0"));
        due.holds("memory", Bench.memory(x, 0).equals("10 127"));
        due.is("lost at the first bit", x.log(9, 1), 2);
    }

    private static void sharedWrite() {
        TwoWires x = new TwoWires();
        x.addListener(9, 0);
        x.write(0, 9, 2, 0x0A0B);
        x.write(1, 9, 2, 0x0A0B);
        due.is("one transfer for both", x.finish(), 29);
        due.is("DELIVERED 0", x.caller(0, 1), 1);
        due.is("DELIVERED 1", x.caller(1, 1), 1);
        due.holds("stored once", Bench.memory(x, 0).equals("10 11"));
    }

    private static void shorterWriteLeaves() {
        TwoWires x = new TwoWires();
        x.addListener(9, 1);
        x.write(0, 9, 1, 0x0A);
        x.write(1, 9, 2, 0x0AFF);
        x.pass(20);
        due.is("the shorter one has left", x.value(5), 2);
        due.is("DELIVERED 0", x.caller(0, 1), 1);
        x.pass(1);
        due.is("the line is held", x.log(0, 2), 6);
        due.is("the rest", x.finish(), 10);
        due.is("DELIVERED 1", x.caller(1, 1), 1);
        due.holds("memory", Bench.memory(x, 0).equals("10 255"));
    }

    private static void sharedRead() {
        TwoWires x = new TwoWires();
        x.addListener(9, 0);
        x.write(0, 9, 3, 0x010203);
        x.finish();
        x.read(0, 9, 1);
        x.read(1, 9, 3);
        x.pass(18);
        due.is("received before the answer", x.caller(0, 7), 1);
        due.is("both still contend", x.value(5), 3);
        x.pass(1);
        due.is("the other goes on", x.log(0, 0), 0);
        due.is("one is left", x.value(5), 2);
        due.is("the rest", x.finish(), 19);
        due.is("the last answer", x.log(1, 0), 1);
        due.holds("caller 0", Bench.caller(x, 0).equals("0 2 0 0 0 0 1 1 0"));
        due.holds("caller 1", Bench.caller(x, 1).equals("0 1 0 0 0 0 3 3 0"));
    }

    private static void readOfNothing() {
        TwoWires x = new TwoWires();
        x.addListener(0, 0);
        x.read(0, 0, 2);
        x.finish();
        due.is("255 is received", x.caller(0, 7), 255);
        due.is("two bytes", x.caller(0, 6), 2);
        due.is("pointer stays", x.listener(0, 3), 0);
    }

    private static void pointerGoesRound() {
        TwoWires x = new TwoWires();
        x.addListener(0, 0);
        x.write(0, 0, 3, 0x0A0B0C);
        x.read(0, 0, 2);
        x.read(0, 0, 2);
        x.finish();
        due.is("pointer", x.listener(0, 3), 1);
        due.is("last byte", x.caller(0, 7), 10);
        x.write(0, 0, 1, 0x0D);
        x.finish();
        due.is("a write leaves the pointer", x.listener(0, 3), 1);
        x.read(0, 0, 4);
        x.pass(18);
        due.is("pointer behind the 8 bits", x.listener(0, 3), 2);
        x.finish();
        due.is("pointer after 4", x.listener(0, 3), 1);
    }

    private static void emptiedDuringRead() {
        TwoWires x = new TwoWires();
        x.addListener(0, 0);
        x.write(0, 0, 2, 0);
        x.finish();
        x.read(0, 0, 1);
        x.pass(10 + 3);
        x.empty(0);
        x.finish();
        due.is("three bits of 0, five of 255", x.caller(0, 7), 31);
        due.is("pointer", x.listener(0, 3), 0);
    }

    private static void limitBelowLosses() {
        TwoWires x = new TwoWires();
        x.write(1, 9, 1, 0);
        for (int i = 0; i < 3; i++) {
            x.write(0, 0, 1, 0);
            x.pass(11);
        }
        due.is("three losses", x.message(1, 0, 3), 3);
        x.setLimit(2);
        due.is("it is not dropped yet", x.caller(1, 0), 1);
        x.write(0, 0, 1, 0);
        x.pass(9);
        due.is("it is dropped as it loses", x.caller(1, 0), 0);
        due.is("LOST", x.caller(1, 4), 1);
        due.is("its losses", x.caller(1, 5), 4);
    }

    private static void queuedDuringTransfer() {
        TwoWires x = new TwoWires();
        x.addListener(1, 0);
        x.write(0, 1, 1, 5);
        x.pass(5);
        x.write(1, 0, 1, 5);
        x.write(0, 1, 1, 6);
        x.pass(1);
        due.is("who comes late is no contender", x.value(5), 1);
        due.is("the first transfer", x.pass(14), 20);
        due.is("its next message waits for the next start", x.value(5), 0);
        x.pass(1);
        due.is("both start", x.log(0, 1), 3);
        due.is("start", x.log(0, 2), 1);
        x.finish();
        due.holds("caller 0", Bench.caller(x, 0).equals("0 2 0 0 0 1 0 -1 0"));
    }
}
