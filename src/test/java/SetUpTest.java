/** Promises 1 to 9: a new object, callers, listeners, the limit, and what is queued. */
public final class SetUpTest {
    private static final Class<IllegalArgumentException> ARGUMENT = IllegalArgumentException.class;
    private static final Class<IllegalStateException> STATE = IllegalStateException.class;
    private static final Class<IndexOutOfBoundsException> INDEX = IndexOutOfBoundsException.class;
    private static final Due due = new Due("SetUpTest");

    public static void main(String[] args) {
        newObject();
        begin();
        addListener();
        turn();
        turnDuringTransfer();
        empty();
        setLimit();
        write();
        read();
        cancel();
        cancelOfContender();
        due.end();
    }

    private static void newObject() {
        TwoWires x = new TwoWires();
        due.holds("P1 values", Bench.values(x).equals("0 2 0 4 1 0 0 0 -1 1"));
        due.holds("P1 caller 0", Bench.caller(x, 0).equals("0 0 0 0 0 0 0 -1 0"));
        due.holds("P1 caller 1", Bench.caller(x, 1).equals("0 0 0 0 0 0 0 -1 0"));
        due.refuses("P1 caller 2", INDEX, x, () -> x.caller(2, 0));
        due.refuses("P1 listener 0", INDEX, x, () -> x.listener(0, 0));
        due.refuses("P1 log", INDEX, x, () -> x.log(0, 0));
        due.refuses("P1 undo", STATE, x, x::undo);
        due.is("P1 clearText()", x.clearText(), 0);
    }

    private static void begin() {
        TwoWires x = new TwoWires();
        for (int wrong : new int[] {0, 4, -1, Integer.MIN_VALUE, Integer.MAX_VALUE}) {
            due.refuses("P2 begin(" + wrong + ")", ARGUMENT, x, () -> x.begin(wrong));
        }
        due.is("P2 begin(3) at first", x.begin(3), 0);
        due.is("P2 callers", x.value(1), 3);
        x.addListener(1, 1);
        x.setLimit(9);
        x.write(2, 1, 1, 7);
        x.write(2, 1, 1, 8);
        x.pass(30);
        x.append('s');
        due.is("P2 begin(1)", x.begin(1), 30);
        due.holds("P2 values", Bench.values(x).equals("0 1 0 4 1 0 0 0 -1 1"));
        due.holds("P2 caller 0", Bench.caller(x, 0).equals("0 0 0 0 0 0 0 -1 0"));
        due.refuses("P2 caller(1, 0)", INDEX, x, () -> x.caller(1, 0));
        due.refuses("P2 log(0, 0)", INDEX, x, () -> x.log(0, 0));
        due.is("P2 the text stays", x.clearText(), 1);
        due.is("P2 undo()", x.undo(), 3);
        due.holds("P2 values are back", Bench.values(x).equals("30 3 1 9 0 4 30 1 -1 0"));
        x.begin(3);
        x.begin(3);
        due.is("P2 nothing is left of the messages", x.caller(2, 0), 0);
        due.is("P2 saved states stay, four of them", Bench.savedStates(x), 4);
    }

    private static void addListener() {
        TwoWires x = new TwoWires();
        int[][] wrong = {{-1, 0}, {128, 0}, {0, -1}, {0, 10}, {Integer.MIN_VALUE, 0}, {0, Integer.MAX_VALUE}};
        for (int[] w : wrong) {
            due.refuses("P3 addListener(" + w[0] + ", " + w[1] + ")", ARGUMENT, x, () -> x.addListener(w[0], w[1]));
        }
        due.is("P3 first", x.addListener(0, 0), 0);
        due.is("P3 second", x.addListener(127, 9), 1);
        due.refuses("P3 address again", STATE, x, () -> x.addListener(0, 3));
        due.holds("P3 listener 0", Bench.listener(x, 0).equals("0 0 0 0 1 0"));
        due.holds("P3 listener 1", Bench.listener(x, 1).equals("127 9 0 0 1 0"));
        x.turn(0, false);
        due.refuses("P3 address of one that is off", STATE, x, () -> x.addListener(0, 3));
        for (int n = 2; n < 6; n++) {
            due.is("P3 listener " + n, x.addListener(n, n), n);
        }
        due.refuses("P3 a seventh", STATE, x, () -> x.addListener(90, 0));
        due.refuses("P3 a seventh with a wrong hold", ARGUMENT, x, () -> x.addListener(90, 10));
        due.refuses("P3 an address again with a wrong hold", ARGUMENT, x, () -> x.addListener(127, 10));
        due.is("P3 undo()", x.undo(), 3);
        due.is("P3 listeners", x.value(2), 5);
        due.is("P3 it can be added once more", x.addListener(90, 0), 5);
        due.holds("P3 it is new", Bench.listener(x, 5).equals("90 0 0 0 1 0"));
    }

    private static void turn() {
        TwoWires x = new TwoWires();
        due.refuses("P4 turn(0, false)", INDEX, x, () -> x.turn(0, false));
        x.addListener(3, 0);
        x.addListener(4, 0);
        due.refuses("P4 turn(-1, false)", INDEX, x, () -> x.turn(-1, false));
        due.refuses("P4 turn(2, false)", INDEX, x, () -> x.turn(2, false));
        due.refuses("P4 turn(1, true)", STATE, x, () -> x.turn(1, true));
        due.is("P4 turn(1, false)", x.turn(1, false), 1);
        due.is("P4 it is off", x.listener(1, 4), 0);
        due.is("P4 turn(0, false)", x.turn(0, false), 0);
        due.refuses("P4 turn(0, false) again", STATE, x, () -> x.turn(0, false));
        due.is("P4 turn(0, true)", x.turn(0, true), 1);
        due.is("P4 undo()", x.undo(), 3);
        due.is("P4 it is off again", x.listener(0, 4), 0);
        x.write(0, 4, 1, 9);
        due.is("P4 one that is off does not answer", x.finish(), 11);
        due.is("P4 NO_ANSWER", x.caller(0, 2), 1);
    }

    private static void turnDuringTransfer() {
        TwoWires x = new TwoWires();
        x.addListener(3, 1);
        x.write(0, 3, 2, 0x0507);
        x.write(0, 3, 1, 9);
        x.pass(10);
        due.is("P4 it takes part", x.value(8), 0);
        x.turn(0, false);
        x.pass(21);
        due.is("P4 it goes on until the stop slot", x.value(8), -1);
        due.holds("P4 it stored", Bench.memory(x, 0).equals("5 7"));
        due.is("P4 then it does not answer", x.finish(), 11);
        due.holds("P4 outcome", Bench.caller(x, 0).equals("0 1 1 0 0 0 0 -1 0"));
    }

    private static void empty() {
        TwoWires x = new TwoWires();
        due.refuses("P5 empty(0)", INDEX, x, () -> x.empty(0));
        x.addListener(3, 0);
        due.refuses("P5 empty(1)", INDEX, x, () -> x.empty(1));
        due.refuses("P5 empty(-1)", INDEX, x, () -> x.empty(-1));
        due.is("P5 of nothing", x.empty(0), 0);
        x.write(0, 3, 3, 0x010203);
        x.read(0, 3, 2);
        x.finish();
        due.holds("P5 pointer", Bench.listener(x, 0).equals("3 0 3 2 1 0"));
        due.is("P5 empty(0)", x.empty(0), 3);
        due.holds("P5 pointer is 0", Bench.listener(x, 0).equals("3 0 0 0 1 0"));
        due.refuses("P5 memory(0, 0)", INDEX, x, () -> x.memory(0, 0));
        x.undo();
        due.holds("P5 undone", Bench.memory(x, 0).equals("1 2 3") && x.listener(0, 3) == 2);
    }

    private static void setLimit() {
        TwoWires x = new TwoWires();
        for (int wrong : new int[] {0, 10, -4, Integer.MAX_VALUE}) {
            due.refuses("P6 setLimit(" + wrong + ")", ARGUMENT, x, () -> x.setLimit(wrong));
        }
        due.is("P6 setLimit(1)", x.setLimit(1), 4);
        due.is("P6 setLimit(9)", x.setLimit(9), 1);
        due.is("P6 limit", x.value(3), 9);
        x.undo();
        due.is("P6 undone", x.value(3), 1);
        x.write(0, 5, 1, 0);
        x.write(1, 6, 1, 0);
        x.pass(9);
        due.is("P6 LOST at the first loss", x.caller(1, 4), 1);
        due.is("P6 it is gone", x.caller(1, 0), 0);
    }

    private static void write() {
        TwoWires x = new TwoWires();
        due.refuses("P7 caller -1", INDEX, x, () -> x.write(-1, 0, 1, 0));
        due.refuses("P7 caller 2", INDEX, x, () -> x.write(2, 0, 1, 0));
        due.refuses("P7 caller before address", INDEX, x, () -> x.write(2, 128, 9, -1));
        due.refuses("P7 address -1", ARGUMENT, x, () -> x.write(0, -1, 1, 0));
        due.refuses("P7 address 128", ARGUMENT, x, () -> x.write(0, 128, 1, 0));
        due.refuses("P7 count 0", ARGUMENT, x, () -> x.write(0, 0, 0, 0));
        due.refuses("P7 count 5", ARGUMENT, x, () -> x.write(0, 0, 5, 0));
        due.refuses("P7 count of a strange size", ARGUMENT, x, () -> x.write(0, 0, Integer.MAX_VALUE, 0));
        for (int count = 1; count <= 4; count++) {
            int c = count;
            due.refuses("P7 bytes -1", ARGUMENT, x, () -> x.write(0, 0, c, -1));
            due.refuses("P7 too many bytes", ARGUMENT, x, () -> x.write(0, 0, c, 1L << 8 * c));
            due.refuses("P7 far too many bytes", ARGUMENT, x, () -> x.write(0, 0, c, Long.MAX_VALUE));
            due.refuses("P7 far too few bytes", ARGUMENT, x, () -> x.write(0, 0, c, Long.MIN_VALUE));
            due.is("P7 the most bytes", x.write(1, 127, c, (1L << 8 * c) - 1), c);
        }
        due.holds("P7 message 0", Bench.message(x, 1, 0).equals("127 0 1 0 255 -1 -1 -1"));
        due.holds("P7 message 3", Bench.message(x, 1, 3).equals("127 0 4 0 255 255 255 255"));
        due.refuses("P7 full", STATE, x, () -> x.write(1, 0, 1, 0));
        due.refuses("P7 bytes before full", ARGUMENT, x, () -> x.write(1, 0, 1, 256));
        due.is("P7 the other queue", x.write(0, 0, 4, 0x80010203L), 1);
        due.holds("P7 order of bytes", Bench.message(x, 0, 0).equals("0 0 4 0 128 1 2 3"));
        x.undo();
        due.is("P7 undone", x.caller(0, 0), 0);
    }

    private static void read() {
        TwoWires x = new TwoWires();
        due.refuses("P8 caller -1", INDEX, x, () -> x.read(-1, 0, 1));
        due.refuses("P8 caller 2", INDEX, x, () -> x.read(2, 128, 1));
        due.refuses("P8 address -1", ARGUMENT, x, () -> x.read(0, -1, 1));
        due.refuses("P8 address 128", ARGUMENT, x, () -> x.read(0, 128, 1));
        due.refuses("P8 count 0", ARGUMENT, x, () -> x.read(0, 0, 0));
        due.refuses("P8 count 5", ARGUMENT, x, () -> x.read(0, 0, 5));
        for (int count = 1; count <= 4; count++) {
            due.is("P8 read", x.read(0, 10 * count, count), count);
        }
        due.refuses("P8 full", STATE, x, () -> x.read(0, 0, 1));
        due.refuses("P8 count before full", ARGUMENT, x, () -> x.read(0, 0, 5));
        due.holds("P8 message 2", Bench.message(x, 0, 2).equals("30 1 3 0 -1 -1 -1 -1"));
        x.undo();
        due.is("P8 undone", x.caller(0, 0), 3);
    }

    private static void cancel() {
        TwoWires x = new TwoWires();
        due.refuses("P9 empty queue", STATE, x, () -> x.cancel(0));
        due.refuses("P9 caller 2", INDEX, x, () -> x.cancel(2));
        due.refuses("P9 caller -1", INDEX, x, () -> x.cancel(-1));
        x.write(0, 11, 1, 1);
        x.read(0, 22, 1);
        due.is("P9 the last one", x.cancel(0), 22);
        due.is("P9 the first one", x.cancel(0), 11);
        due.is("P9 none is left", x.caller(0, 0), 0);
        due.is("P9 undo()", x.undo(), 3);
        due.holds("P9 undone", Bench.message(x, 0, 0).equals("11 0 1 0 1 -1 -1 -1"));
        due.is("P9 a new one stands where it stood", x.write(0, 33, 2, 5), 2);
        due.holds("P9 it is new", Bench.message(x, 0, 1).equals("33 0 2 0 0 5 -1 -1"));
    }

    private static void cancelOfContender() {
        TwoWires x = new TwoWires();
        x.addListener(1, 0);
        x.write(0, 1, 1, 0);
        x.write(1, 2, 1, 0);
        x.pass(1);
        due.refuses("P9 contender", STATE, x, () -> x.cancel(0));
        due.refuses("P9 the other contender", STATE, x, () -> x.cancel(1));
        x.write(0, 5, 1, 0);
        due.is("P9 behind the first", x.cancel(0), 5);
        due.refuses("P9 contender again", STATE, x, () -> x.cancel(0));
        x.pass(8);
        due.is("P9 contenders", x.value(5), 1);
        due.is("P9 one that has lost the bus", x.cancel(1), 2);
        due.is("P9 its losses stay counted", x.caller(1, 5), 1);
        x.pass(10);
        due.is("P9 the stop slot is next, the message has left", x.caller(0, 0), 0);
        x.write(0, 6, 1, 0);
        due.is("P9 no contender before the stop slot", x.cancel(0), 6);
    }
}
