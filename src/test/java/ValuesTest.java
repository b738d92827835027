/** Promises 12 to 17: what is told of callers, messages, listeners, memories, the bus and its log. */
public final class ValuesTest {
    private static final Class<IllegalArgumentException> ARGUMENT = IllegalArgumentException.class;
    private static final Class<IndexOutOfBoundsException> INDEX = IndexOutOfBoundsException.class;
    private static final Due due = new Due("ValuesTest");

    public static void main(String[] args) {
        caller();
        message();
        listener();
        memory();
        value();
        log();
        due.end();
    }

    private static void caller() {
        TwoWires x = new TwoWires();
        x.begin(3);
        for (int wrong : new int[] {-1, 3, Integer.MIN_VALUE, Integer.MAX_VALUE}) {
            due.refuses("P12 caller(" + wrong + ", 9)", INDEX, x, () -> x.caller(wrong, 9));
            due.refuses("P12 caller(0, what)", ARGUMENT, x, () -> x.caller(0, wrong < 0 ? wrong : wrong + 6));
        }
        due.refuses("P12 caller(2, 9)", ARGUMENT, x, () -> x.caller(2, 9));
        x.addListener(4, 0);
        x.setLimit(2);
        x.write(0, 4, 1, 66);
        x.finish();
        x.read(2, 4, 1);
        x.write(2, 4, 1, 9);
        x.write(2, 5, 1, 9);
        x.write(0, 4, 1, 67);
        x.finish();
        due.holds("P12 caller 2", Bench.caller(x, 2).equals("0 2 1 0 0 1 1 66 0"));
        x.read(0, 4, 4);
        x.pass(1);
        due.is("P12 contender", x.caller(0, 8), 1);
        due.is("P12 no contender", x.caller(2, 8), 0);
    }

    private static void message() {
        TwoWires x = new TwoWires();
        due.refuses("P13 no message", INDEX, x, () -> x.message(0, 0, 0));
        x.write(0, 7, 3, 0x0102FF);
        x.read(0, 8, 4);
        due.holds("P13 write", Bench.message(x, 0, 0).equals("7 0 3 0 1 2 255 -1"));
        due.holds("P13 read", Bench.message(x, 0, 1).equals("8 1 4 0 -1 -1 -1 -1"));
        due.refuses("P13 caller 2", INDEX, x, () -> x.message(2, 0, 0));
        due.refuses("P13 caller -1", INDEX, x, () -> x.message(-1, 0, 0));
        due.refuses("P13 place 2", INDEX, x, () -> x.message(0, 2, 8));
        due.refuses("P13 place -1", INDEX, x, () -> x.message(0, -1, 0));
        due.refuses("P13 place far away", INDEX, x, () -> x.message(0, Integer.MAX_VALUE, 0));
        due.refuses("P13 what 8", ARGUMENT, x, () -> x.message(0, 0, 8));
        due.refuses("P13 what -1", ARGUMENT, x, () -> x.message(0, 0, -1));
        x.write(1, 0, 1, 0);
        x.pass(11);
        due.is("P13 losses", x.message(0, 0, 3), 1);
        x.pass(11);
        x.cancel(0);
        x.read(0, 8, 4);
        for (int place = 1; place < 4; place++) {
            x.read(0, 8, 4);
            due.is("P13 a new message has no losses", x.message(0, place, 3), 0);
        }
        due.holds("P13 the second one moves up", Bench.message(x, 0, 0).equals("8 1 4 0 -1 -1 -1 -1"));
    }

    private static void listener() {
        TwoWires x = new TwoWires();
        due.refuses("P14 none", INDEX, x, () -> x.listener(0, 0));
        x.addListener(4, 3);
        due.refuses("P14 listener 1", INDEX, x, () -> x.listener(1, 6));
        due.refuses("P14 listener -1", INDEX, x, () -> x.listener(-1, 0));
        due.refuses("P14 what 6", ARGUMENT, x, () -> x.listener(0, 6));
        due.refuses("P14 what -1", ARGUMENT, x, () -> x.listener(0, -1));
        x.write(0, 4, 2, 0x1122);
        x.read(0, 4, 1);
        x.finish();
        due.holds("P14 values", Bench.listener(x, 0).equals("4 3 2 1 1 9"));
        x.turn(0, false);
        due.is("P14 off", x.listener(0, 4), 0);
        x.read(0, 4, 1);
        x.finish();
        due.is("P14 it held no more", x.listener(0, 5), 9);
    }

    private static void memory() {
        TwoWires x = new TwoWires();
        due.refuses("P15 none", INDEX, x, () -> x.memory(0, 0));
        x.addListener(4, 0);
        due.refuses("P15 empty", INDEX, x, () -> x.memory(0, 0));
        for (int i = 0; i < 4; i++) {
            x.write(0, 4, 4, 0x01020304 + 0x04040404L * i);
        }
        x.finish();
        for (int place = 0; place < 16; place++) {
            due.is("P15 memory(0, " + place + ")", x.memory(0, place), place + 1);
        }
        due.refuses("P15 place 16", INDEX, x, () -> x.memory(0, 16));
        due.refuses("P15 place -1", INDEX, x, () -> x.memory(0, -1));
        due.refuses("P15 listener 1", INDEX, x, () -> x.memory(1, 0));
        due.refuses("P15 listener -1", INDEX, x, () -> x.memory(-1, 0));
    }

    private static void value() {
        TwoWires x = new TwoWires();
        for (int wrong : new int[] {-1, 10, Integer.MIN_VALUE, Integer.MAX_VALUE}) {
            due.refuses("P16 value(" + wrong + ")", ARGUMENT, x, () -> x.value(wrong));
        }
        x.addListener(3, 0);
        x.addListener(4, 2);
        x.setLimit(7);
        x.pass(5);
        x.write(1, 4, 1, 0x80);
        x.pass(1);
        due.holds("P16 in the start slot", Bench.values(x).equals("6 2 2 7 0 2 1 0 -1 0"));
        x.pass(9);
        due.holds("P16 behind the answer", Bench.values(x).equals("15 2 2 7 0 2 10 0 1 0"));
        x.pass(3);
        due.holds("P16 behind the first bit", Bench.values(x).equals("18 2 2 7 0 2 13 2 1 1"));
        x.pass(8);
        due.holds("P16 before the stop slot", Bench.values(x).equals("26 2 2 7 0 0 21 2 1 0"));
        x.pass(1);
        due.holds("P16 behind the stop slot", Bench.values(x).equals("27 2 2 7 1 0 22 2 -1 1"));
        x.pass(1);
        due.holds("P16 in an idle slot", Bench.values(x).equals("28 2 2 7 1 0 22 2 -1 1"));
    }

    private static void log() {
        TwoWires x = new TwoWires();
        due.refuses("P17 none", INDEX, x, () -> x.log(0, 0));
        x.write(0, 1, 1, 0);
        x.pass(1);
        due.is("P17 level", x.log(0, 0), 0);
        due.is("P17 contenders", x.log(0, 1), 1);
        due.is("P17 kind", x.log(0, 2), 1);
        due.refuses("P17 back 1", INDEX, x, () -> x.log(1, 3));
        due.refuses("P17 back -1", INDEX, x, () -> x.log(-1, 0));
        due.refuses("P17 what 3", ARGUMENT, x, () -> x.log(0, 3));
        due.refuses("P17 what -1", ARGUMENT, x, () -> x.log(0, -1));
        x.pass(62);
        due.is("P17 the oldest of 63", x.log(62, 2), 1);
        due.refuses("P17 back 63", INDEX, x, () -> x.log(63, 0));
        x.pass(1);
        due.is("P17 the oldest of 64", x.log(63, 2), 1);
        x.pass(1);
        due.is("P17 the oldest of 65 is not kept", x.log(63, 2), 2);
        due.refuses("P17 back 64", INDEX, x, () -> x.log(64, 0));
        due.refuses("P17 back far away", INDEX, x, () -> x.log(Integer.MAX_VALUE, 0));
        x.undo();
        due.is("P17 undone", x.log(63, 2), 1);
        x.pass(200);
        due.refuses("P17 back 64 of many", INDEX, x, () -> x.log(64, 0));
        due.is("P17 idle", x.log(63, 2), 0);
    }
}
