import java.util.function.LongSupplier;

/** Runs of calls on TwoWires and on the Model, whose answers, exceptions and digests are the same. */
public final class ModelTest {
    private static final int RUNS = 300;
    private static final int CALLS = 512;
    private static final int[] ADDRESSES = {0, 1, 5, 64, 126, 127};
    private static final int[] BYTES = {0, 1, 2, 3, 127, 128, 254, 255};
    private static final int[] ODD_NUMBERS = {-1, Integer.MIN_VALUE, Integer.MAX_VALUE, 3, 4, 5, 6, 9, 10, 128, 201};

    private final Due due;
    private final TwoWires x = new TwoWires();
    private final Model m = new Model();
    private long seed;
    private int call = 0;
    private final int run;

    private ModelTest(Due due, int run) {
        this.due = due;
        this.run = run;
        this.seed = run * 7919L + 17;
    }

    public static void main(String[] args) {
        Due due = new Due("ModelTest");
        for (int run = 0; run < RUNS && !due.anyWrong(); run++) {
            new ModelTest(due, run).go();
        }
        due.end();
    }

    /** The same numbers in each run of the test. */
    private int pick(int bound) {
        seed = seed * 6364136223846793005L + 1442695040888963407L;
        return (int) ((seed >>> 33) % bound);
    }

    private int pickOf(int[] numbers) {
        return numbers[pick(numbers.length)];
    }

    private int odd(int usual) {
        return pick(25) == 0 ? pickOf(ODD_NUMBERS) : usual;
    }

    private void go() {
        begin();
        while (call < CALLS && !due.anyWrong()) {
            change();
            ask();
            same("digest()", x::digest, m::digest);
            if (call % 16 == 0) {
                askAll();
            }
        }
    }

    private void begin() {
        int callers = 1 + pick(3);
        same("begin(" + callers + ")", () -> x.begin(callers), () -> m.begin(callers));
        for (int n = pick(6); n > 0; n--) {
            addListener();
        }
    }

    private void change() {
        switch (pick(24)) {
            case 0: addListener(); break;
            case 1: turn(); break;
            case 2: empty(); break;
            case 3: setLimit(); break;
            case 4: case 5: case 6: case 7: case 8: write(); break;
            case 9: case 10: case 11: case 12: read(); break;
            case 13: cancel(); break;
            case 14: case 15: case 16: case 17: case 18: pass(); break;
            case 19: same("finish()", x::finish, m::finish); break;
            case 20: case 21: text(); break;
            case 22: undo(); break;
            default: changeSeldom(); break;
        }
    }

    private void undo() {
        for (int times = 1 + pick(4); times > 0; times--) {
            same("undo()", x::undo, m::undo);
        }
    }

    private void changeSeldom() {
        int callers = odd(1 + pick(3));
        if (pick(6) == 0) {
            same("begin(" + callers + ")", () -> x.begin(callers), () -> m.begin(callers));
        }
    }

    private void addListener() {
        int address = odd(pickOf(ADDRESSES));
        int hold = odd(pick(4));
        same("addListener(" + address + ", " + hold + ")", () -> x.addListener(address, hold),
                () -> m.addListener(address, hold));
    }

    private void turn() {
        int n = odd(pick(6));
        boolean on = pick(2) == 0;
        same("turn(" + n + ", " + on + ")", () -> x.turn(n, on), () -> m.turn(n, on));
    }

    private void empty() {
        int n = odd(pick(6));
        same("empty(" + n + ")", () -> x.empty(n), () -> m.empty(n));
    }

    private void setLimit() {
        int limit = odd(1 + pick(5));
        same("setLimit(" + limit + ")", () -> x.setLimit(limit), () -> m.setLimit(limit));
    }

    private void write() {
        int c = odd(pick(3));
        int address = odd(pickOf(ADDRESSES));
        int count = odd(1 + pick(4));
        long bytes = 0;
        for (int i = 0; i < count && i < 4; i++) {
            bytes = 256 * bytes + pickOf(BYTES);
        }
        long all = pick(30) == 0 ? -bytes : pick(30) == 0 ? bytes * 256 : pick(50) == 0 ? Long.MAX_VALUE : bytes;
        same("write(" + c + ", " + address + ", " + count + ", " + all + ")",
                () -> x.write(c, address, count, all), () -> m.write(c, address, count, all));
    }

    private void read() {
        int c = odd(pick(3));
        int address = odd(pickOf(ADDRESSES));
        int count = odd(1 + pick(4));
        same("read(" + c + ", " + address + ", " + count + ")", () -> x.read(c, address, count),
                () -> m.read(c, address, count));
    }

    private void cancel() {
        int c = odd(pick(3));
        same("cancel(" + c + ")", () -> x.cancel(c), () -> m.cancel(c));
    }

    private void pass() {
        int slots = odd(pick(4) == 0 ? 1 + pick(200) : 1 + pick(15));
        same("pass(" + slots + ")", () -> x.pass(slots), () -> m.pass(slots));
    }

    private void text() {
        same("clearText()", x::clearText, m::clearText);
        StringBuilder written = new StringBuilder();
        for (int orders = pick(6); orders > 0; orders--) {
            writeOrder(written);
        }
        for (int faults = pick(3); faults > 0; faults--) {
            spoil(written);
        }
        for (int i = 0; i < written.length(); i++) {
            int sign = written.charAt(i);
            same("append(" + sign + ")", () -> x.append(sign), () -> m.append(sign));
        }
        same("carryOut() of " + written, x::carryOut, m::carryOut);
    }

    private void writeOrder(StringBuilder out) {
        int kind = pick(3);
        if (kind == 0) {
            out.append('s').append(number(pick(10) == 0 ? pick(1100) : 1 + pick(40)));
        } else {
            out.append(kind == 1 ? 'w' : 'r').append(pick(20) == 0 ? 3 : pick(3)).append(':');
            out.append(number(pick(15) == 0 ? pick(300) : pickOf(ADDRESSES)));
            if (kind == 1) {
                char before = '=';
                for (int i = pick(12) == 0 ? 5 : 1 + pick(4); i > 0; i--) {
                    out.append(before).append(number(pick(15) == 0 ? pick(1500) : pickOf(BYTES)));
                    before = ',';
                }
            } else {
                out.append('*').append(pick(15) == 0 ? pick(10) : 1 + pick(4));
            }
        }
        out.append(';');
    }

    private String number(int n) {
        String digits = Integer.toString(n);
        return digits.length() < 3 && pick(4) == 0 ? "0" + digits : digits;
    }

    private void spoil(StringBuilder out) {
        if (out.length() == 0 || pick(2) == 0) {
            return;
        }
        int at = pick(out.length());
        switch (pick(4)) {
            case 0: out.deleteCharAt(at); break;
            case 1: out.setLength(at); break;
            case 2: out.insert(at, "wrs:=*,;0159 x".charAt(pick(14))); break;
            default: out.setCharAt(at, "wrs:=*,;0159 x".charAt(pick(14))); break;
        }
    }

    private void ask() {
        int c = odd(pick(3));
        int n = odd(pick(6));
        int what = odd(pick(11));
        int place = odd(pick(5));
        switch (pick(10)) {
            case 0: same("caller(" + c + ", " + what + ")", () -> x.caller(c, what), () -> m.caller(c, what)); break;
            case 1: same("message(" + c + ", " + place + ", " + what + ")", () -> x.message(c, place, what),
                    () -> m.message(c, place, what)); break;
            case 2: same("listener(" + n + ", " + what + ")", () -> x.listener(n, what),
                    () -> m.listener(n, what)); break;
            case 3: same("memory(" + n + ", " + place + ")", () -> x.memory(n, place), () -> m.memory(n, place)); break;
            case 4: same("value(" + what + ")", () -> x.value(what), () -> m.value(what)); break;
            case 5: same("log(" + place + ", " + what + ")", () -> x.log(place, what), () -> m.log(place, what)); break;
            case 6: same("alone(" + c + ")", () -> x.alone(c), () -> m.alone(c)); break;
            case 7: same("delivers(" + c + ")", () -> x.delivers(c), () -> m.delivers(c)); break;
            case 8: same("winners()", x::winners, m::winners); break;
            default: due.is("run " + run + ", call " + call++ + ": busy()", x.busy(), m.busy()); break;
        }
    }

    /** Beyond the calls that are counted: a log of slots takes 192 of them. */
    private void askAll() {
        int counted = call;
        for (int back = 0; back <= 64; back++) {
            int b = back;
            for (int what = 0; what <= 2; what++) {
                int w = what;
                same("log(" + b + ", " + w + ")", () -> x.log(b, w), () -> m.log(b, w));
            }
        }
        for (int c = 0; c < 3; c++) {
            int asked = c;
            same("alone(" + c + ")", () -> x.alone(asked), () -> m.alone(asked));
            same("delivers(" + c + ")", () -> x.delivers(asked), () -> m.delivers(asked));
        }
        same("winners()", x::winners, m::winners);
        same("slotsToFinish()", x::slotsToFinish, m::slotsToFinish);
        call = counted;
    }

    private void same(String name, LongSupplier got, LongSupplier want) {
        call++;
        String due = outcome(want);
        String answered = outcome(got);
        this.due.holds("run " + run + ", call " + call + ": " + name + " answered " + answered + ", the model " + due
                + ": that these are the same", answered.equals(due));
    }

    private static String outcome(LongSupplier asked) {
        long[] answer = new long[1];
        RuntimeException thrown = Due.thrownBy(() -> answer[0] = asked.getAsLong());
        return thrown == null ? Long.toString(answer[0]) : thrown.getClass().getName();
    }
}
