/** Promises 26 and 27: undo and digest. */
public final class StateTest {
    private static final Due due = new Due("StateTest");

    public static void main(String[] args) {
        undoNothing();
        undoableCalls();
        atMostFour();
        undoDuringTransfer();
        undoOfOverwrittenMemory();
        undoBringsBackAll();
        refusedCallsSaveNothing();
        digestOfNew();
        digestOfMuch();
        due.end();
    }

    private static void undoNothing() {
        TwoWires x = new TwoWires();
        due.refuses("P26 undo()", IllegalStateException.class, x, x::undo);
        x.pass(1);
        due.is("P26 undo()", x.undo(), 0);
        due.refuses("P26 undo() again", IllegalStateException.class, x, x::undo);
    }

    /** With a text of three bytes, one that can be carried out. */
    private static TwoWires ready() {
        TwoWires x = new TwoWires();
        Bench.type(x, "s1;");
        return x;
    }

    private static void saves(String name, TwoWires x, Due.Call made) {
        int before = Bench.savedOf(x, 3);
        long digest = x.digest();
        made.make();
        due.is("P26 saved states behind " + name, Bench.savedOf(x, 3), before + 1);
        due.is("P26 undo() of " + name, x.undo(), before);
        due.is("P26 digest behind undo() of " + name, x.digest(), digest);
        made.make();
    }

    private static void undoableCalls() {
        TwoWires x = ready();
        saves("addListener", x, () -> x.addListener(1, 1));
        saves("turn", x, () -> x.turn(0, false));
        saves("empty", x, () -> x.empty(0));
        due.is("P26 three", Bench.savedOf(x, 3), 3);
        TwoWires y = ready();
        saves("setLimit", y, () -> y.setLimit(4));
        saves("write", y, () -> y.write(0, 1, 1, 1));
        saves("read", y, () -> y.read(0, 1, 1));
        saves("cancel", y, () -> y.cancel(0));
        TwoWires z = ready();
        saves("pass", z, () -> z.pass(3));
        saves("finish", z, z::finish);
        saves("carryOut", z, z::carryOut);
        saves("begin", z, () -> z.begin(3));
    }

    private static void atMostFour() {
        TwoWires x = new TwoWires();
        for (int limit = 1; limit <= 9; limit++) {
            x.setLimit(limit);
        }
        for (int left = 3; left >= 0; left--) {
            due.is("P26 undo()", x.undo(), left);
            due.is("P26 limit", x.value(3), 5 + left);
        }
        due.refuses("P26 the fifth one is dropped", IllegalStateException.class, x, x::undo);
        x.setLimit(2);
        due.is("P26 one state", x.undo(), 0);
        due.is("P26 limit", x.value(3), 5);
    }

    private static void undoDuringTransfer() {
        TwoWires x = new TwoWires();
        x.addListener(5, 2);
        Bench.carryOut(x, "w0:5=17,34,51;w1:5=17,34,68;s26;");
        long digest = x.digest();
        int rest = x.slotsToFinish();
        x.finish();
        long finished = x.digest();
        x.undo();
        due.is("P26 back in the middle", x.digest(), digest);
        due.is("P26 the same slots", x.finish(), rest);
        due.is("P26 the same end", x.digest(), finished);
    }

    private static void undoOfOverwrittenMemory() {
        TwoWires x = new TwoWires();
        x.addListener(5, 0);
        Bench.carryOut(x, "w0:5=1,2,3;s100;");
        x.empty(0);
        Bench.carryOut(x, "w0:5=7,8,9;s100;");
        x.undo();
        x.undo();
        due.holds("P26 the first bytes are back", Bench.memory(x, 0).equals("1 2 3"));
        x.begin(1);
        x.addListener(6, 0);
        Bench.carryOut(x, "w0:6=7,8,9,10;s100;");
        x.undo();
        x.undo();
        x.undo();
        due.holds("P26 they are back behind begin()", Bench.memory(x, 0).equals("1 2 3"));
    }

    /** All that the face tells, at each slot of some transfers, is the same before a call and behind its undo. */
    private static void undoBringsBackAll() {
        TwoWires x = new TwoWires();
        x.begin(3);
        x.addListener(5, 2);
        x.addListener(4, 0);
        Bench.carryOut(x, "w0:5=1,2,3;r0:5*2;w1:5=1,2,4;r2:5*3;w2:6=0;r1:4*1;");
        x.setLimit(2);
        for (int slot = 0; slot < 150; slot++) {
            String before = Bench.all(x);
            int rest = x.slotsToFinish();
            due.is("P26 finish()", x.finish(), rest);
            String end = Bench.all(x);
            x.undo();
            due.holds("P26 all is back at slot " + slot + " behind finish()", Bench.all(x).equals(before));
            x.begin(1);
            x.addListener(5, 1);
            Bench.carryOut(x, "r0:5*4;w0:5=9,9,9,9;s10;w0:5=8;w0:5=7;s99;");
            x.undo();
            x.undo();
            x.undo();
            due.holds("P26 all is back at slot " + slot + " behind begin()", Bench.all(x).equals(before));
            x.finish();
            due.holds("P26 it goes on alike from slot " + slot, Bench.all(x).equals(end));
            x.undo();
            x.pass(1);
        }
    }

    private static void refusedCallsSaveNothing() {
        TwoWires x = new TwoWires();
        Due.thrownBy(() -> x.begin(0));
        Due.thrownBy(() -> x.addListener(0, 10));
        Due.thrownBy(() -> x.turn(0, true));
        Due.thrownBy(() -> x.empty(0));
        Due.thrownBy(() -> x.setLimit(0));
        Due.thrownBy(() -> x.write(0, 0, 1, 256));
        Due.thrownBy(() -> x.read(0, 0, 5));
        Due.thrownBy(() -> x.cancel(0));
        Due.thrownBy(() -> x.pass(0));
        due.refuses("P26 nothing is saved", IllegalStateException.class, x, x::undo);
    }

    private static void digestOfNew() {
        int[] values = {0, 0, 2, 0, 4, 1, 0, 0, 0, -1, 1, 0, 0, 0, 0, 0, 0, 0, -1, 0, 0, 0, 0, 0, 0, 0, 0, -1, 0, 0, 0};
        long h = 3803;
        for (int v : values) {
            h = 31 * h + v;
        }
        due.is("P27 digest() of a new object", new TwoWires().digest(), h);
    }

    private static void digestOfMuch() {
        TwoWires x = new TwoWires();
        x.begin(3);
        x.addListener(7, 2);
        x.addListener(8, 0);
        x.write(0, 7, 4, 0xFF00FF01L);
        x.write(1, 7, 4, 0xFF00FF02L);
        x.read(2, 8, 2);
        x.read(2, 7, 2);
        x.write(1, 9, 1, 0);
        Bench.type(x, "s22;s");
        for (int i = 0; i < 12; i++) {
            due.is("P27 digest()", x.digest(), Bench.digestByWords(x, 5, 4));
            due.is("P27 digest() again", x.digest(), Bench.digestByWords(x, 5, 4));
            x.pass(13);
        }
        x.undo();
        x.clearText();
        due.is("P27 digest() with three states", x.digest(), Bench.digestByWords(x, 0, 3));
    }
}
