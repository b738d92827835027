/** Promises 18 to 22: what would happen, without its happening, and how busy the bus was. */
public final class ForecastTest {
    private static final Class<IndexOutOfBoundsException> INDEX = IndexOutOfBoundsException.class;
    private static final Due due = new Due("ForecastTest");

    public static void main(String[] args) {
        slotsToFinish();
        aloneOfWrite();
        aloneOfRead();
        aloneDuringTransfer();
        winners();
        delivers();
        busy();
        due.end();
    }

    private static void slotsToFinish() {
        TwoWires x = new TwoWires();
        due.is("P18 at rest", x.slotsToFinish(), 0);
        x.addListener(6, 1);
        x.write(0, 6, 2, 7);
        x.write(1, 6, 2, 8);
        x.read(1, 9, 1);
        long before = x.digest();
        due.is("P18 slotsToFinish()", x.slotsToFinish(), 31 + 31 + 11);
        due.is("P18 it changes nothing", x.digest(), before);
        x.pass(31);
        due.is("P18 between transfers", x.slotsToFinish(), 31 + 11);
        x.pass(30);
        due.is("P18 before a stop slot", x.slotsToFinish(), 1 + 11);
        due.is("P18 finish() agrees", x.finish(), 12);
    }

    private static void aloneOfWrite() {
        TwoWires x = new TwoWires();
        for (int wrong : new int[] {-1, 2, Integer.MAX_VALUE}) {
            due.refuses("P19 alone(" + wrong + ")", INDEX, x, () -> x.alone(wrong));
        }
        due.is("P19 no message", x.alone(0), -1);
        x.write(0, 6, 4, 1);
        x.write(1, 5, 4, 1);
        due.is("P19 no listener", x.alone(0), 11);
        x.addListener(6, 5);
        due.is("P19 a listener", x.alone(0), 11 + 4 * 14);
        x.turn(0, false);
        due.is("P19 a listener that is off", x.alone(0), 11);
        x.turn(0, true);
        for (int i = 0; i < 3; i++) {
            x.write(1, 6, 4, i);
        }
        x.cancel(0);
        x.finish();
        x.write(1, 6, 2, 0);
        x.finish();
        x.write(1, 6, 2, 0);
        due.is("P19 it just fits", x.alone(1), 11 + 2 * 14);
        x.cancel(1);
        x.write(1, 6, 4, 0);
        due.is("P19 refused at the third byte", x.alone(1), 11 + 3 * 14);
        x.finish();
        x.write(1, 6, 4, 0);
        due.is("P19 refused at once", x.alone(1), 11 + 14);
        due.is("P19 finish() agrees", x.finish(), 25);
    }

    private static void aloneOfRead() {
        TwoWires x = new TwoWires();
        x.addListener(6, 0);
        x.read(1, 6, 3);
        x.read(1, 7, 3);
        due.is("P19 a read", x.alone(1), 11 + 3 * 9);
        due.is("P19 the other", x.alone(0), -1);
        x.finish();
        due.is("P19 nothing left", x.alone(1), -1);
    }

    private static void aloneDuringTransfer() {
        TwoWires x = new TwoWires();
        x.addListener(6, 2);
        x.write(0, 6, 2, 0);
        x.pass(20);
        due.is("P19 as if the bus were idle", x.alone(0), 11 + 2 * 11);
        x.turn(0, false);
        due.is("P19 with the listener off", x.alone(0), 11);
    }

    private static void winners() {
        TwoWires x = new TwoWires();
        x.begin(3);
        due.is("P20 none", x.winners(), 0);
        x.write(2, 9, 1, 0);
        due.is("P20 one", x.winners(), 4);
        x.read(0, 8, 1);
        due.is("P20 the lower address", x.winners(), 1);
        x.write(1, 8, 1, 255);
        due.is("P20 a write before a read", x.winners(), 2);
        x.cancel(1);
        x.read(1, 8, 4);
        due.is("P20 two", x.winners(), 3);
        x.write(2, 0, 1, 0);
        due.is("P20 only first messages count", x.winners(), 3);
        x.pass(5);
        long before = x.digest();
        due.is("P20 during a transfer", x.winners(), 3);
        due.is("P20 it changes nothing", x.digest(), before);
        x.setLimit(1);
        due.is("P20 the limit does not matter", x.winners(), 3);
    }

    private static void delivers() {
        TwoWires x = new TwoWires();
        for (int wrong : new int[] {-1, 2, Integer.MIN_VALUE}) {
            due.refuses("P21 delivers(" + wrong + ")", INDEX, x, () -> x.delivers(wrong));
        }
        due.is("P21 none", x.delivers(0), 0);
        x.addListener(6, 0);
        x.read(1, 6, 1);
        due.is("P21 one", x.delivers(1), 1);
        x.cancel(1);
        x.setLimit(2);
        x.write(0, 6, 1, 0);
        x.write(0, 6, 1, 0);
        x.write(0, 6, 1, 0);
        x.write(0, 7, 1, 0);
        x.write(1, 6, 1, 1);
        x.read(1, 6, 1);
        long before = x.digest();
        due.is("P21 three of four", x.delivers(0), 3);
        due.is("P21 one, for the other is LOST", x.delivers(1), 1);
        due.is("P21 it changes nothing", x.digest(), before);
        x.pass(20);
        due.is("P21 one less", x.delivers(0), 2);
        x.finish();
        due.is("P21 afterwards", x.delivers(0), 0);
        due.is("P21 DELIVERED", x.caller(0, 1), 3);
        due.is("P21 LOST", x.caller(1, 4), 1);
    }

    private static void busy() {
        TwoWires x = new TwoWires();
        due.is("P22 at first", x.busy(), 0.0);
        x.pass(7);
        due.is("P22 idle", x.busy(), 0.0);
        x.write(0, 1, 1, 0);
        x.pass(3);
        due.is("P22 three of ten", x.busy(), 3.0 / 10.0);
        x.finish();
        due.is("P22 all of one transfer", x.busy(), 11.0 / 18.0);
        x.begin(1);
        x.read(0, 1, 1);
        x.finish();
        due.is("P22 always", x.busy(), 1.0);
    }
}
