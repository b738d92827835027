/** Promises 23 to 25: the text, its syntax, and its orders. */
public final class TextTest {
    private static final Due due = new Due("TextTest");

    public static void main(String[] args) {
        append();
        clearText();
        goodTexts();
        syntaxErrors();
        numbersOutOfRange();
        longTexts();
        textAfterText();
        syntaxErrorChangesNothing();
        ordersAreCarriedOut();
        ordersThatThrow();
        carryOutSavesOnce();
        due.end();
    }

    private static void append() {
        TwoWires x = new TwoWires();
        for (int wrong : new int[] {-1, 128, Integer.MIN_VALUE, Integer.MAX_VALUE}) {
            due.refuses("P23 append(" + wrong + ")", IllegalArgumentException.class, x, () -> x.append(wrong));
        }
        for (int length = 1; length <= 100; length++) {
            due.is("P23 length", x.append(length % 2 == 0 ? 0 : 127), length);
        }
        due.refuses("P23 a byte too many", IllegalStateException.class, x, () -> x.append('s'));
        due.refuses("P23 a wrong byte too many", IllegalArgumentException.class, x, () -> x.append(128));
        due.refuses("P23 it saves nothing", IllegalStateException.class, x, x::undo);
    }

    private static void clearText() {
        TwoWires x = new TwoWires();
        due.is("P24 nothing", x.clearText(), 0);
        Bench.type(x, "s5;");
        due.is("P24 three bytes", x.clearText(), 3);
        due.is("P24 again", x.clearText(), 0);
        due.is("P24 the text is empty", x.append('s'), 1);
        due.refuses("P24 it saves nothing", IllegalStateException.class, x, x::undo);
    }

    private static void text(String text, int want) {
        TwoWires x = new TwoWires();
        x.begin(3);
        int got = Bench.carryOut(x, text);
        due.is("P25 carryOut() of " + text, got, want);
        due.is("P25 the text stays, " + text, x.clearText(), text.length());
    }

    private static void error(String text, int position) {
        text(text, -10 - position);
    }

    private static void goodTexts() {
        text("", 0);
        text("s1;", 1);
        text("s200;", 1);
        text("s001;s020;", 2);
        text("w0:0=0;", 1);
        text("w2:127=255,0,000,001;", 1);
        text("w1:007=1,2;", 1);
        text("r0:0*1;", 1);
        text("r2:127*4;s9;r1:064*2;", 3);
    }

    private static void syntaxErrors() {
        error("x", 0);
        error(" s1;", 0);
        error(";", 0);
        error("W0:1=1;", 0);
        error("s", 1);
        error("s;", 1);
        error("s-1;", 1);
        error("s1", 2);
        error("s1 ;", 2);
        error("s1,", 2);
        error("s1;;", 3);
        error("s1;x", 3);
        error("s1;w", 4);
        error("s0001;", 4);
        error("s2000;", 4);
        error("s9999;", 4);
        error("w", 1);
        error("w3:1=1;", 1);
        error("w:1=1;", 1);
        error("w0", 2);
        error("w01:1=1;", 2);
        error("w0=1;", 2);
        error("w0:", 3);
        error("w0:=1;", 3);
        error("w0:1", 4);
        error("w0:1*1;", 4);
        error("w0:0001=1;", 6);
        error("w0:1=", 5);
        error("w0:1=;", 5);
        error("w0:1=1", 6);
        error("w0:1=1,", 7);
        error("w0:1=1,;", 7);
        error("w0:1=0001;", 8);
        error("w0:1=1,2,3,4,5;", 12);
        error("w0:1=1,2,3,4,", 12);
        error("w0:1=1,2,3,4", 12);
        error("r", 1);
        error("r4:1*1;", 1);
        error("r0:1=1;", 4);
        error("r0:1*", 5);
        error("r0:1*0;", 5);
        error("r0:1*5;", 5);
        error("r0:1*;", 5);
        error("r0:1*1", 6);
        error("r0:1*12;", 6);
        error("r0:1*01;", 5);
        error("r0:1*1,", 6);
    }

    private static void numbersOutOfRange() {
        error("s0;", 1);
        error("s000;", 1);
        error("s201;", 1);
        error("s201", 1);
        error("s201x", 1);
        error("s0", 1);
        error("s0,", 1);
        error("s00x", 1);
        error("s2010", 4);
        error("s0000", 4);
        error("w0:128=1;", 3);
        error("w0:128", 3);
        error("w0:128;", 3);
        error("w0:999*", 3);
        error("w0:9999", 6);
        error("w0:1=256;", 5);
        error("w0:1=256", 5);
        error("w0:1=256,", 5);
        error("w0:1=256:", 5);
        error("w0:1=2560", 8);
        error("w0:1=1,2,3,256,5;", 11);
        error("w0:1=1,2,3,256", 11);
        error("r1:128*1;", 3);
        error("r1:128=1;", 3);
        error("r1:200", 3);
    }

    private static void longTexts() {
        StringBuilder orders = new StringBuilder();
        for (int i = 0; i < 33; i++) {
            orders.append("s1;");
        }
        text(orders.toString(), 33);
        error(orders + "s", 100);
        error(orders + ";", 99);
    }

    private static void textAfterText() {
        TwoWires x = new TwoWires();
        due.is("P25 an error", Bench.carryOut(x, "s1;w0:12;"), -18);
        due.is("P25 a text behind an error", Bench.carryOut(x, "s1;s2;"), 2);
        due.is("P25 a shorter text", Bench.carryOut(x, "s1"), -12);
        due.is("P25 one that goes on", x.append(';'), 3);
        due.is("P25 carryOut()", x.carryOut(), 1);
        due.is("P25 an error again", Bench.carryOut(x, "w"), -11);
        x.clearText();
        due.is("P25 no text behind an error", x.carryOut(), 0);
        due.is("P25 slots", x.value(0), 4);
    }

    private static void syntaxErrorChangesNothing() {
        TwoWires x = new TwoWires();
        Bench.type(x, "s5;w0:1=1;s");
        long before = x.digest();
        due.is("P25 error", x.carryOut(), -21);
        due.is("P25 nothing changes", x.digest(), before);
        due.refuses("P25 nothing is saved", IllegalStateException.class, x, x::undo);
    }

    private static void ordersAreCarriedOut() {
        TwoWires x = new TwoWires();
        x.addListener(12, 0);
        due.is("P25 orders", Bench.carryOut(x, "w1:012=7,255;r1:12*3;w0:127=0,1,2,3;s1;"), 4);
        due.holds("P25 write", Bench.message(x, 1, 0).equals("12 0 2 0 7 255 -1 -1"));
        due.holds("P25 read", Bench.message(x, 1, 1).equals("12 1 3 0 -1 -1 -1 -1"));
        due.holds("P25 long write", Bench.message(x, 0, 0).equals("127 0 4 0 0 1 2 3"));
        due.is("P25 slots", x.value(0), 1);
        due.is("P25 contenders", x.value(5), 3);
        due.is("P25 once more", x.carryOut(), 4);
        due.is("P25 queue", x.caller(1, 0), 4);
    }

    private static void ordersThatThrow() {
        TwoWires x = new TwoWires();
        due.is("P25 no such caller", Bench.carryOut(x, "s3;w2:1=1;s4;"), 1);
        due.is("P25 up to it", x.value(0), 3);
        due.is("P25 no such caller for a read", Bench.carryOut(x, "r2:1*1;"), 0);
        due.is("P25 a full queue", Bench.carryOut(x, "r0:1*1;r0:1*1;w0:1=1;r0:1*1;r0:1*1;w1:1=1;"), 4);
        due.is("P25 four messages", x.caller(0, 0), 4);
        due.is("P25 nothing behind it", x.caller(1, 0), 0);
        due.is("P25 a full queue for a write", Bench.carryOut(x, "w0:1=1;s1;"), 0);
        due.is("P25 slots make room", Bench.carryOut(x, "s11;w0:1=1;"), 2);
    }

    private static void carryOutSavesOnce() {
        TwoWires x = new TwoWires();
        long before = x.digest();
        Bench.carryOut(x, "w0:1=1;s2;w1:3=3;");
        due.is("P25 one state", x.undo(), 0);
        due.is("P25 the text is not undone", x.clearText(), 17);
        due.is("P25 all else is", x.digest(), before);
        x.carryOut();
        due.is("P25 one state also for no order", x.undo(), 0);
        Bench.carryOut(x, "w2:1=1;");
        due.is("P25 one state also if the first throws", x.undo(), 0);
    }
}
