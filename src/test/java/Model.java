import java.util.ArrayList;
import java.util.List;
import java.util.regex.Matcher;
import java.util.regex.Pattern;

/**
 * A second TwoWires, written from the document alone and in another way: states are copied anew, slots are told by
 * name, and the text is read by a pattern.
 */
final class Model {
    static final class Msg {
        boolean read;
        int address;
        int losses;
        int count;
        List<Integer> bytes = new ArrayList<>();

        Msg copy() {
            Msg m = new Msg();
            m.read = read;
            m.address = address;
            m.losses = losses;
            m.count = count;
            m.bytes = new ArrayList<>(bytes);
            return m;
        }
    }

    static final class Party {
        List<Msg> queue = new ArrayList<>();
        int delivered;
        int noAnswer;
        int refused;
        int lost;
        int losses;
        List<Integer> received = new ArrayList<>();
        boolean contends;
        int gotHere;

        Party copy() {
            Party p = new Party();
            for (Msg m : queue) {
                p.queue.add(m.copy());
            }
            p.delivered = delivered;
            p.noAnswer = noAnswer;
            p.refused = refused;
            p.lost = lost;
            p.losses = losses;
            p.received = new ArrayList<>(received);
            p.contends = contends;
            p.gotHere = gotHere;
            return p;
        }
    }

    static final class Ear {
        int address;
        int hold;
        boolean on = true;
        int held;
        int pointer;
        List<Integer> memory = new ArrayList<>();

        Ear copy() {
            Ear e = new Ear();
            e.address = address;
            e.hold = hold;
            e.on = on;
            e.held = held;
            e.pointer = pointer;
            e.memory = new ArrayList<>(memory);
            return e;
        }
    }

    static final class World {
        List<Party> parties = new ArrayList<>();
        List<Ear> ears = new ArrayList<>();
        int limit = 4;
        int slot;
        int idleSlots;
        int heldSlots;
        int lastLevel = 1;
        List<int[]> log = new ArrayList<>();
        String next = "idle";
        String line = "";
        int ear = -1;
        int waits;
        int bytesGone;

        World(int callers) {
            for (int i = 0; i < callers; i++) {
                parties.add(new Party());
            }
        }

        World copy() {
            World w = new World(0);
            for (Party p : parties) {
                w.parties.add(p.copy());
            }
            for (Ear e : ears) {
                w.ears.add(e.copy());
            }
            w.limit = limit;
            w.slot = slot;
            w.idleSlots = idleSlots;
            w.heldSlots = heldSlots;
            w.lastLevel = lastLevel;
            w.log = new ArrayList<>(log);
            w.next = next;
            w.line = line;
            w.ear = ear;
            w.waits = waits;
            w.bytesGone = bytesGone;
            return w;
        }

        boolean rests() {
            for (Party p : parties) {
                if (!p.queue.isEmpty()) {
                    return false;
                }
            }
            return next.equals("idle");
        }

        int set() {
            int s = 0;
            for (int c = 0; c < parties.size(); c++) {
                s += parties.get(c).contends ? 1 << c : 0;
            }
            return s;
        }

        int finish() {
            int n = 0;
            while (!rests()) {
                tick();
                n++;
            }
            return n;
        }

        void tick() {
            String now = next;
            if (now.equals("idle")) {
                for (Party p : parties) {
                    if (!p.queue.isEmpty()) {
                        p.contends = true;
                        p.gotHere = 0;
                        now = "start";
                    }
                }
            }
            int level;
            switch (now) {
                case "idle":
                    level = 1;
                    break;
                case "start":
                    level = 0;
                    next = "header";
                    line = "";
                    break;
                case "header":
                    level = arbitrate();
                    if (line.length() == 8) {
                        next = "header?";
                    }
                    break;
                case "header?":
                    level = headerAnswer();
                    break;
                case "hold":
                    level = 0;
                    ears.get(ear).held++;
                    waits--;
                    if (waits == 0) {
                        next = "byte";
                        line = "";
                    }
                    break;
                case "byte":
                    level = isRead() ? readBit() : arbitrate();
                    if (line.length() == 8) {
                        next = "byte?";
                        byteGone();
                    }
                    break;
                case "byte?":
                    level = isRead() ? readAnswer() : writeAnswer();
                    break;
                default:
                    level = 1;
                    next = "idle";
                    ear = -1;
                    break;
            }
            note(now, level);
        }

        void note(String now, int level) {
            List<String> names = List.of("idle", "start", "header", "header?", "byte", "byte?", "hold", "stop");
            slot++;
            lastLevel = level;
            if (now.equals("idle")) {
                idleSlots++;
            }
            if (now.equals("hold")) {
                heldSlots++;
            }
            log.add(0, new int[] {level, set(), names.indexOf(now)});
            if (log.size() > 64) {
                log.remove(64);
            }
        }

        boolean isRead() {
            for (Party p : parties) {
                if (p.contends) {
                    return p.queue.get(0).read;
                }
            }
            throw new AssertionError("no contender");
        }

        static String eight(int number) {
            return String.format("%8s", Integer.toBinaryString(number)).replace(' ', '0');
        }

        String sent(Msg m) {
            return eight(next.equals("byte") ? m.bytes.get(bytesGone) : 2 * m.address + (m.read ? 1 : 0));
        }

        int arbitrate() {
            boolean zero = false;
            for (Party p : parties) {
                zero |= p.contends && sent(p.queue.get(0)).charAt(line.length()) == '0';
            }
            for (Party p : parties) {
                if (zero && p.contends && sent(p.queue.get(0)).charAt(line.length()) == '1') {
                    p.contends = false;
                    p.losses++;
                    p.queue.get(0).losses++;
                    if (p.queue.get(0).losses >= limit) {
                        p.queue.remove(0);
                        p.lost++;
                    }
                }
            }
            line += zero ? "0" : "1";
            return zero ? 0 : 1;
        }

        int headerAnswer() {
            for (Party p : parties) {
                if (p.contends) {
                    ear = earOn(p.queue.get(0).address);
                }
            }
            bytesGone = 0;
            if (ear < 0) {
                for (Party p : parties) {
                    if (p.contends) {
                        p.contends = false;
                        p.queue.remove(0);
                        p.noAnswer++;
                    }
                }
                next = "stop";
                return 1;
            }
            hold();
            return 0;
        }

        int earOn(int address) {
            for (int n = 0; n < ears.size(); n++) {
                if (ears.get(n).address == address && ears.get(n).on) {
                    return n;
                }
            }
            return -1;
        }

        void hold() {
            if (set() == 0) {
                next = "stop";
                return;
            }
            line = "";
            waits = ears.get(ear).hold;
            next = waits > 0 ? "hold" : "byte";
        }

        int readBit() {
            Ear e = ears.get(ear);
            int b = e.memory.isEmpty() ? 255 : e.memory.get(e.pointer);
            char bit = eight(b).charAt(line.length());
            line += bit;
            return bit - '0';
        }

        void byteGone() {
            bytesGone++;
            if (!isRead()) {
                return;
            }
            Ear e = ears.get(ear);
            e.pointer = e.memory.isEmpty() ? 0 : (e.pointer + 1) % e.memory.size();
            for (Party p : parties) {
                if (p.contends) {
                    p.received.add(Integer.parseInt(line, 2));
                    p.gotHere++;
                }
            }
        }

        int readAnswer() {
            int level = 1;
            for (Party p : parties) {
                if (p.contends && p.gotHere < p.queue.get(0).count) {
                    level = 0;
                } else if (p.contends) {
                    p.contends = false;
                    p.queue.remove(0);
                    p.delivered++;
                }
            }
            hold();
            return level;
        }

        int writeAnswer() {
            Ear e = ears.get(ear);
            boolean full = e.memory.size() == 16;
            if (!full) {
                e.memory.add(Integer.parseInt(line, 2));
            }
            for (Party p : parties) {
                if (p.contends && (full || p.queue.get(0).count == bytesGone)) {
                    p.contends = false;
                    p.queue.remove(0);
                    p.refused += full ? 1 : 0;
                    p.delivered += full ? 0 : 1;
                }
            }
            hold();
            return full ? 1 : 0;
        }
    }

    World now = new World(2);
    final List<World> saved = new ArrayList<>();
    String text = "";

    private void save() {
        saved.add(now.copy());
        if (saved.size() > 4) {
            saved.remove(0);
        }
    }

    private static void range(long n, long least, long most) {
        if (n < least || n > most) {
            throw new IllegalArgumentException();
        }
    }

    private Party party(int c) {
        if (c < 0 || c >= now.parties.size()) {
            throw new IndexOutOfBoundsException();
        }
        return now.parties.get(c);
    }

    private Ear ear(int n) {
        if (n < 0 || n >= now.ears.size()) {
            throw new IndexOutOfBoundsException();
        }
        return now.ears.get(n);
    }

    private static void state(boolean good) {
        if (!good) {
            throw new IllegalStateException();
        }
    }

    int begin(int callers) {
        range(callers, 1, 3);
        save();
        int passed = now.slot;
        now = new World(callers);
        return passed;
    }

    int addListener(int address, int hold) {
        range(address, 0, 127);
        range(hold, 0, 9);
        state(now.ears.size() < 6);
        for (Ear e : now.ears) {
            state(e.address != address);
        }
        save();
        Ear e = new Ear();
        e.address = address;
        e.hold = hold;
        now.ears.add(e);
        return now.ears.size() - 1;
    }

    int turn(int n, boolean on) {
        state(ear(n).on != on);
        save();
        ear(n).on = on;
        int count = 0;
        for (Ear e : now.ears) {
            count += e.on ? 1 : 0;
        }
        return count;
    }

    int empty(int n) {
        ear(n);
        save();
        int had = ear(n).memory.size();
        ear(n).memory.clear();
        ear(n).pointer = 0;
        return had;
    }

    int setLimit(int limit) {
        range(limit, 1, 9);
        save();
        int before = now.limit;
        now.limit = limit;
        return before;
    }

    int write(int c, int address, int count, long bytes) {
        Party p = party(c);
        range(address, 0, 127);
        range(count, 1, 4);
        long most = 1;
        for (int i = 0; i < count; i++) {
            most *= 256;
        }
        range(bytes, 0, most - 1);
        state(p.queue.size() < 4);
        save();
        Msg m = new Msg();
        m.address = address;
        m.count = count;
        for (int i = 0; i < count; i++) {
            most /= 256;
            m.bytes.add((int) (bytes / most % 256));
        }
        p.queue.add(m);
        return p.queue.size();
    }

    int read(int c, int address, int count) {
        Party p = party(c);
        range(address, 0, 127);
        range(count, 1, 4);
        state(p.queue.size() < 4);
        save();
        Msg m = new Msg();
        m.read = true;
        m.address = address;
        m.count = count;
        p.queue.add(m);
        return p.queue.size();
    }

    int cancel(int c) {
        Party p = party(c);
        state(!p.queue.isEmpty() && !(p.queue.size() == 1 && p.contends));
        save();
        return p.queue.remove(p.queue.size() - 1).address;
    }

    int pass(int slots) {
        range(slots, 1, 200);
        save();
        for (int i = 0; i < slots; i++) {
            now.tick();
        }
        return now.slot;
    }

    int finish() {
        save();
        return now.finish();
    }

    int caller(int c, int what) {
        Party p = party(c);
        range(what, 0, 8);
        int last = p.received.isEmpty() ? -1 : p.received.get(p.received.size() - 1);
        return new int[] {p.queue.size(), p.delivered, p.noAnswer, p.refused, p.lost, p.losses, p.received.size(),
            last, p.contends ? 1 : 0}[what];
    }

    int message(int c, int place, int what) {
        Party p = party(c);
        if (place < 0 || place >= p.queue.size()) {
            throw new IndexOutOfBoundsException();
        }
        range(what, 0, 7);
        Msg m = p.queue.get(place);
        if (what >= 4) {
            return what - 4 < m.bytes.size() ? m.bytes.get(what - 4) : -1;
        }
        return new int[] {m.address, m.read ? 1 : 0, m.count, m.losses}[what];
    }

    int listener(int n, int what) {
        Ear e = ear(n);
        range(what, 0, 5);
        return new int[] {e.address, e.hold, e.memory.size(), e.pointer, e.on ? 1 : 0, e.held}[what];
    }

    int memory(int n, int place) {
        Ear e = ear(n);
        if (place < 0 || place >= e.memory.size()) {
            throw new IndexOutOfBoundsException();
        }
        return e.memory.get(place);
    }

    int value(int what) {
        range(what, 0, 9);
        return new int[] {now.slot, now.parties.size(), now.ears.size(), now.limit, now.next.equals("idle") ? 1 : 0,
            now.set(), now.slot - now.idleSlots, now.heldSlots, now.ear, now.lastLevel}[what];
    }

    int log(int back, int what) {
        if (back < 0 || back >= now.log.size()) {
            throw new IndexOutOfBoundsException();
        }
        range(what, 0, 2);
        return now.log.get(back)[what];
    }

    int slotsToFinish() {
        return now.copy().finish();
    }

    /** On a bus of its own, slot by slot. */
    int alone(int c) {
        if (party(c).queue.isEmpty()) {
            return -1;
        }
        World w = new World(1);
        w.parties.get(0).queue.add(party(c).queue.get(0).copy());
        for (Ear e : now.ears) {
            w.ears.add(e.copy());
        }
        return w.finish();
    }

    /** On a bus of its own, up to the last bit of the header. */
    int winners() {
        World w = new World(now.parties.size());
        w.limit = 1000;
        boolean any = false;
        for (int c = 0; c < now.parties.size(); c++) {
            if (!party(c).queue.isEmpty()) {
                w.parties.get(c).queue.add(party(c).queue.get(0).copy());
                any = true;
            }
        }
        for (int i = 0; any && i < 9; i++) {
            w.tick();
        }
        return w.set();
    }

    int delivers(int c) {
        int before = party(c).delivered;
        World w = now.copy();
        w.finish();
        return w.parties.get(c).delivered - before;
    }

    double busy() {
        return now.slot == 0 ? 0.0 : (double) (now.slot - now.idleSlots) / (double) now.slot;
    }

    int append(int value) {
        range(value, 0, 127);
        state(text.length() < 100);
        text += (char) value;
        return text.length();
    }

    int clearText() {
        int length = text.length();
        text = "";
        return length;
    }

    private static final Pattern ORDERS = Pattern.compile(
            "(w[0-2]:[0-9]{1,3}=[0-9]{1,3}(,[0-9]{1,3}){0,3};|r[0-2]:[0-9]{1,3}\\*[1-4];|s[0-9]{1,3};)*");

    static int syntaxError(String text) {
        for (int i = 0; i <= text.length(); i++) {
            int wrongNumber = numberOutOfRange(text, i);
            if (wrongNumber >= 0) {
                return wrongNumber;
            }
            if (i < text.length()) {
                Matcher m = ORDERS.matcher(text.substring(0, i + 1));
                if (!m.matches() && !m.hitEnd()) {
                    return i;
                }
            }
        }
        return ORDERS.matcher(text).matches() ? -1 : text.length();
    }

    /** The first digit of the number that ends right before i, if it is out of its range; otherwise -1. */
    private static int numberOutOfRange(String text, int i) {
        if (i < text.length() && Character.isDigit(text.charAt(i))) {
            return -1;
        }
        int first = i;
        while (first > 0 && Character.isDigit(text.charAt(first - 1))) {
            first--;
        }
        if (first == i || first == 0) {
            return -1;
        }
        int number = Integer.parseInt(text.substring(first, i));
        switch (text.charAt(first - 1)) {
            case ':': return number > 127 ? first : -1;
            case '=': case ',': return number > 255 ? first : -1;
            case 's': return number < 1 || number > 200 ? first : -1;
            default: return -1;
        }
    }

    int carryOut() {
        int error = syntaxError(text);
        if (error >= 0) {
            return -10 - error;
        }
        List<World> before = new ArrayList<>(saved);
        World start = now.copy();
        int done = 0;
        try {
            for (String order : text.split(";")) {
                if (!order.isEmpty()) {
                    carryOutOne(order);
                    done++;
                }
            }
        } catch (IndexOutOfBoundsException | IllegalStateException e) {
            // The order that throws is not carried out, nor is any behind it.
        }
        saved.clear();
        saved.addAll(before);
        World end = now;
        now = start;
        save();
        now = end;
        return done;
    }

    private void carryOutOne(String order) {
        String[] parts = order.substring(1).split("[:=*,]");
        if (order.charAt(0) == 's') {
            pass(Integer.parseInt(parts[0]));
        } else if (order.charAt(0) == 'r') {
            read(Integer.parseInt(parts[0]), Integer.parseInt(parts[1]), Integer.parseInt(parts[2]));
        } else {
            long bytes = 0;
            for (int i = 2; i < parts.length; i++) {
                bytes = 256 * bytes + Integer.parseInt(parts[i]);
            }
            write(Integer.parseInt(parts[0]), Integer.parseInt(parts[1]), parts.length - 2, bytes);
        }
    }

    int undo() {
        state(!saved.isEmpty());
        now = saved.remove(saved.size() - 1);
        return saved.size();
    }

    long digest() {
        List<Integer> v = new ArrayList<>();
        v.add(text.length());
        for (int what = 0; what < 10; what++) {
            v.add(value(what));
        }
        for (int c = 0; c < now.parties.size(); c++) {
            for (int what = 0; what < 9; what++) {
                v.add(caller(c, what));
            }
            for (int place = 0; place < caller(c, 0); place++) {
                for (int what = 0; what < 8; what++) {
                    v.add(message(c, place, what));
                }
            }
        }
        for (int n = 0; n < now.ears.size(); n++) {
            for (int what = 0; what < 6; what++) {
                v.add(listener(n, what));
            }
            v.addAll(now.ears.get(n).memory);
        }
        for (int[] kept : now.log) {
            v.add(kept[0]);
        }
        v.add(slotsToFinish());
        v.add(saved.size());
        long h = 3803;
        for (int each : v) {
            h = 31 * h + each;
        }
        return h;
    }
}
