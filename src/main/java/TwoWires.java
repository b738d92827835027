/**
 * A bus of two wires: callers that begin together and lose the data line bit by bit, listeners that hold the
 * clock line, a log of slots, forecasts, and orders that are read from a text.
 */
public final class TwoWires {
    public static final int NONE = -1;

    private static final int MOST_CALLERS = 3;
    private static final int MOST_MESSAGES = 4;
    private static final int MOST_BYTES = 4;
    private static final int MOST_LISTENERS = 6;
    private static final int MOST_MEMORY = 16;
    private static final int MOST_ADDRESS = 127;
    private static final int MOST_HOLD = 9;
    private static final int MOST_LIMIT = 9;
    private static final int MOST_PASS = 200;
    private static final int MOST_SAVED = 4;
    private static final int MOST_TEXT = 100;
    /** A power of two, so that a mask finds the place of a slot. */
    private static final int KEPT_SLOTS = 64;
    /** Far above the slots that any queues can need: it ends the loop of a run to rest in plain sight. */
    private static final int ENOUGH_SLOTS = 1000000;

    /** What a message ended with, numbered as caller() tells it. */
    private static final int DELIVERED = 1;
    private static final int NO_ANSWER = 2;
    private static final int REFUSED = 3;
    private static final int LOST = 4;

    /** What a slot is, numbered as log() tells it; the phase of a bus is what its next slot is. */
    private static final int IDLE = 0;
    private static final int START = 1;
    private static final int HEADER_BIT = 2;
    private static final int HEADER_ANSWER = 3;
    private static final int BYTE_BIT = 4;
    private static final int BYTE_ANSWER = 5;
    private static final int HELD = 6;
    private static final int STOP = 7;

    private final Bus bus = new Bus();
    /** Forecasts run here, so that the bus itself stays as it is. */
    private final Bus trial = new Bus();
    /** Stays as it was made: begin() copies it. */
    private final Bus fresh = new Bus();
    private final Bus[] saved = new Bus[MOST_SAVED];
    private int savedCount = 0;
    private final OrderText text = new OrderText();

    public TwoWires() {
        for (int i = 0; i < saved.length; i++) {
            saved[i] = new Bus();
        }
    }

    // ---- bus

    public int begin(int callers) throws IllegalArgumentException {
        requireRange(callers, 1, MOST_CALLERS);
        int passed = bus.slots.passed;
        saveState();
        bus.copyFrom(fresh);
        bus.callerCount = callers;
        return passed;
    }

    public int addListener(int address, int hold) throws IllegalArgumentException, IllegalStateException {
        requireRange(address, 0, MOST_ADDRESS);
        requireRange(hold, 0, MOST_HOLD);
        if (bus.listenerCount >= MOST_LISTENERS) {
            throw new IllegalStateException("there are 6 listeners");
        }
        if (bus.listenerWith(address) != NONE) {
            throw new IllegalStateException("a listener has this address");
        }
        saveState();
        return bus.placeListener(address, hold);
    }

    public int turn(int listener, boolean on) throws IndexOutOfBoundsException, IllegalStateException {
        Listener turned = listenerOrThrow(listener);
        if (turned.on == on) {
            throw new IllegalStateException("it is so already");
        }
        saveState();
        turned.on = on;
        return bus.listenersOn();
    }

    public int empty(int listener) throws IndexOutOfBoundsException {
        Listener emptied = listenerOrThrow(listener);
        saveState();
        return emptied.forget();
    }

    public int setLimit(int limit) throws IllegalArgumentException {
        requireRange(limit, 1, MOST_LIMIT);
        int previous = bus.limit;
        saveState();
        bus.limit = limit;
        return previous;
    }

    public int write(int caller, int address, int count, long bytes)
            throws IndexOutOfBoundsException, IllegalArgumentException, IllegalStateException {
        Caller queuing = callerOrThrow(caller);
        requireRange(address, 0, MOST_ADDRESS);
        requireRange(count, 1, MOST_BYTES);
        if (bytes < 0 || bytes >= 1L << 8 * count) {
            throw new IllegalArgumentException("the bytes are out of range");
        }
        return queueMessage(queuing, false, address, count, bytes);
    }

    public int read(int caller, int address, int count)
            throws IndexOutOfBoundsException, IllegalArgumentException, IllegalStateException {
        Caller queuing = callerOrThrow(caller);
        requireRange(address, 0, MOST_ADDRESS);
        requireRange(count, 1, MOST_BYTES);
        return queueMessage(queuing, true, address, count, 0);
    }

    public int cancel(int caller) throws IndexOutOfBoundsException, IllegalStateException {
        Caller cancelling = callerOrThrow(caller);
        if (cancelling.size == 0) {
            throw new IllegalStateException("the queue is empty");
        }
        if (cancelling.size == 1 && bus.contends(caller)) {
            throw new IllegalStateException("the only message is on the bus");
        }
        saveState();
        return cancelling.takeBack();
    }

    public int pass(int slots) throws IllegalArgumentException {
        requireRange(slots, 1, MOST_PASS);
        saveState();
        bus.passSlots(slots);
        return bus.slots.passed;
    }

    public int finish() {
        saveState();
        return bus.runToRest();
    }

    // ---- values

    public int caller(int caller, int what) throws IndexOutOfBoundsException, IllegalArgumentException {
        Caller told = callerOrThrow(caller);
        requireRange(what, 0, 8);
        if (what == 8) {
            return bus.contends(caller) ? 1 : 0;
        }
        return told.tell(what);
    }

    public int message(int caller, int place, int what) throws IndexOutOfBoundsException, IllegalArgumentException {
        Message told = callerOrThrow(caller).messageAt(place);
        if (told == null) {
            throw new IndexOutOfBoundsException("the queue has not so many messages");
        }
        requireRange(what, 0, 7);
        return told.tell(what);
    }

    public int listener(int listener, int what) throws IndexOutOfBoundsException, IllegalArgumentException {
        Listener told = listenerOrThrow(listener);
        requireRange(what, 0, 5);
        return told.tell(what);
    }

    public int memory(int listener, int place) throws IndexOutOfBoundsException {
        Listener told = listenerOrThrow(listener);
        if (place < 0 || place >= told.size) {
            throw new IndexOutOfBoundsException("the memory has not so many bytes");
        }
        return told.byteAt(place);
    }

    public int value(int what) throws IllegalArgumentException {
        requireRange(what, 0, 9);
        return bus.tell(what);
    }

    public int log(int back, int what) throws IndexOutOfBoundsException, IllegalArgumentException {
        if (back < 0 || back >= bus.slots.keptCount()) {
            throw new IndexOutOfBoundsException("no such slot is kept");
        }
        requireRange(what, 0, 2);
        return bus.slots.tell(back, what);
    }

    // ---- what if

    public int slotsToFinish() {
        return runTrial();
    }

    public int alone(int caller) throws IndexOutOfBoundsException {
        Message first = callerOrThrow(caller).messageAt(0);
        return first == null ? NONE : bus.slotsAlone(first);
    }

    public int winners() {
        return bus.lowestHeaders();
    }

    public int delivers(int caller) throws IndexOutOfBoundsException {
        int before = callerOrThrow(caller).tell(DELIVERED);
        runTrial();
        Caller then = trial.callerAt(caller);
        return then == null ? 0 : then.tell(DELIVERED) - before;
    }

    public double busy() {
        int passed = bus.slots.passed;
        if (passed == 0) {
            return 0.0;
        }
        return (double) bus.slots.notIdle / (double) passed;
    }

    // ---- text

    public int append(int value) throws IllegalArgumentException, IllegalStateException {
        requireRange(value, 0, 127);
        if (text.length >= MOST_TEXT) {
            throw new IllegalStateException("the text has 100 bytes");
        }
        return text.add(value);
    }

    public int clearText() {
        int length = text.length;
        text.length = 0;
        return length;
    }

    public int carryOut() {
        int error = text.findError();
        if (error != NONE) {
            return -10 - error;
        }
        saveState();
        text.rewind();
        int done = 0;
        while (done < MOST_TEXT && text.nextOrder() && obeyOrder()) {
            done++;
        }
        return done;
    }

    // ---- state

    public int undo() throws IllegalStateException {
        Bus last = savedAt(savedCount - 1);
        if (last == null) {
            throw new IllegalStateException("there is no saved state");
        }
        bus.copyFrom(last);
        savedCount--;
        return savedCount;
    }

    public long digest() {
        long h = mix(3803, text.length);
        for (int what = 0; what <= 9; what++) {
            h = mix(h, bus.tell(what));
        }
        for (int c = 0; c < bus.callerCount; c++) {
            h = mixCaller(h, c);
        }
        for (int n = 0; n < bus.listenerCount; n++) {
            h = mixListener(h, bus.listenerAt(n));
        }
        int kept = bus.slots.keptCount();
        for (int back = 0; back < kept; back++) {
            h = mix(h, bus.slots.tell(back, 0));
        }
        h = mix(h, runTrial());
        return mix(h, savedCount);
    }

    private static long mix(long h, int v) {
        return 31 * h + v;
    }

    private long mixCaller(long h, int number) {
        Caller mixed = bus.callerAt(number);
        if (mixed == null) {
            return h;
        }
        for (int what = 0; what <= 7; what++) {
            h = mix(h, mixed.tell(what));
        }
        h = mix(h, bus.contends(number) ? 1 : 0);
        for (int place = 0; place < mixed.size; place++) {
            h = mixMessage(h, mixed.messageAt(place));
        }
        return h;
    }

    private static long mixMessage(long h, Message mixed) {
        if (mixed == null) {
            return h;
        }
        for (int what = 0; what <= 7; what++) {
            h = mix(h, mixed.tell(what));
        }
        return h;
    }

    private static long mixListener(long h, Listener mixed) {
        if (mixed == null) {
            return h;
        }
        for (int what = 0; what <= 5; what++) {
            h = mix(h, mixed.tell(what));
        }
        for (int place = 0; place < mixed.size; place++) {
            h = mix(h, mixed.byteAt(place));
        }
        return h;
    }

    private static void requireRange(int number, int least, int most) {
        if (number < least || number > most) {
            throw new IllegalArgumentException("an argument is out of range");
        }
    }

    private Caller callerOrThrow(int number) {
        Caller found = bus.callerAt(number);
        if (found == null) {
            throw new IndexOutOfBoundsException("there is no such caller");
        }
        return found;
    }

    private Listener listenerOrThrow(int number) {
        Listener found = bus.listenerAt(number);
        if (found == null) {
            throw new IndexOutOfBoundsException("there is no such listener");
        }
        return found;
    }

    private int queueMessage(Caller queuing, boolean isRead, int address, int count, long bytes) {
        if (queuing.size >= MOST_MESSAGES) {
            throw new IllegalStateException("the queue has 4 messages");
        }
        saveState();
        queuing.enqueue(isRead, address, count, bytes);
        return queuing.size;
    }

    /** Carries out the order that the text has just read; false if its call would throw an exception. */
    private boolean obeyOrder() {
        if (text.kind == 's') {
            bus.passSlots(text.amount);
            return true;
        }
        Caller ordered = bus.callerAt(text.callerDigit);
        return ordered != null && ordered.enqueue(text.kind == 'r', text.address, text.amount, text.bytes);
    }

    /** Runs a copy of the bus to rest, and answers how many slots that takes. */
    private int runTrial() {
        trial.copyFrom(bus);
        return trial.runToRest();
    }

    private void saveState() {
        if (savedCount >= MOST_SAVED) {
            dropOldestState();
        }
        Bus free = savedAt(savedCount);
        if (free != null) {
            free.copyFrom(bus);
            savedCount++;
        }
    }

    /** The bus that held the oldest state goes to the end, to be used again. */
    private void dropOldestState() {
        Bus oldest = saved[0];
        for (int i = 1; i < saved.length; i++) {
            saved[i - 1] = saved[i];
        }
        saved[saved.length - 1] = oldest;
        savedCount--;
    }

    private Bus savedAt(int place) {
        return place >= 0 && place < saved.length ? saved[place] : null;
    }

    private static void copyNumbers(int[] from, int[] to) {
        System.arraycopy(from, 0, to, 0, Math.min(from.length, to.length));
    }

    /** A write or a read that stands in the queue of a caller. */
    private static final class Message {
        private boolean isRead = false;
        private int address = 0;
        private int count = 1;
        private int losses = 0;
        /** The bytes of a write as one number, the first one the highest. */
        private long bytes = 0;

        private void copyFrom(Message other) {
            isRead = other.isRead;
            address = other.address;
            count = other.count;
            losses = other.losses;
            bytes = other.bytes;
        }

        private int header() {
            return 2 * address + (isRead ? 1 : 0);
        }

        private int byteAt(int place) {
            if (isRead || place < 0 || place >= count) {
                return NONE;
            }
            return (int) (bytes >> 8 * (count - 1 - place)) & 255;
        }

        private int tell(int what) {
            switch (what) {
                case 0: return address;
                case 1: return isRead ? 1 : 0;
                case 2: return count;
                case 3: return losses;
                default: return byteAt(what - 4);
            }
        }
    }

    /** A caller with its queue, and what became of its messages. */
    private static final class Caller {
        /** The messages behind the first size ones are free ones, to be used again. */
        private final Message[] queue = new Message[MOST_MESSAGES];
        private int size = 0;
        /** The messages that ended so far, each at the number of what it ended with. */
        private final int[] ended = new int[LOST + 1];
        private int losses = 0;
        private int received = 0;
        private int lastByte = NONE;

        private Caller() {
            for (int i = 0; i < queue.length; i++) {
                queue[i] = new Message();
            }
        }

        private void copyFrom(Caller other) {
            for (int i = 0; i < queue.length && i < other.queue.length; i++) {
                Message mine = queue[i];
                Message theirs = other.queue[i];
                if (mine != null && theirs != null) {
                    mine.copyFrom(theirs);
                }
            }
            size = other.size;
            copyNumbers(other.ended, ended);
            losses = other.losses;
            received = other.received;
            lastByte = other.lastByte;
        }

        private Message messageAt(int place) {
            return place >= 0 && place < size && place < queue.length ? queue[place] : null;
        }

        /** False if the queue is full. */
        private boolean enqueue(boolean isRead, int address, int count, long bytes) {
            Message free = size >= 0 && size < queue.length ? queue[size] : null;
            if (free == null) {
                return false;
            }
            free.isRead = isRead;
            free.address = address;
            free.count = count;
            free.losses = 0;
            free.bytes = bytes;
            size++;
            return true;
        }

        private int takeBack() {
            Message last = messageAt(size - 1);
            if (last == null) {
                return NONE;
            }
            size--;
            return last.address;
        }

        private void endFirst(int outcome) {
            if (size <= 0 || outcome < 0 || outcome >= ended.length) {
                return;
            }
            Message first = queue[0];
            for (int i = 1; i < queue.length; i++) {
                queue[i - 1] = queue[i];
            }
            queue[queue.length - 1] = first;
            size--;
            ended[outcome]++;
        }

        private void loseBit(int limit) {
            Message first = messageAt(0);
            if (first == null) {
                return;
            }
            first.losses++;
            losses++;
            if (first.losses >= limit) {
                endFirst(LOST);
            }
        }

        private void receiveByte(int value) {
            received++;
            lastByte = value;
        }

        private int tell(int what) {
            switch (what) {
                case 0: return size;
                case 5: return losses;
                case 6: return received;
                case 7: return lastByte;
                default: return what > 0 && what < ended.length ? ended[what] : 0;
            }
        }
    }

    /** A listener with its memory. */
    private static final class Listener {
        private int address = 0;
        private int hold = 0;
        private boolean on = true;
        private int heldSlots = 0;
        private final int[] bytes = new int[MOST_MEMORY];
        private int size = 0;
        private int pointer = 0;

        private void copyFrom(Listener other) {
            address = other.address;
            hold = other.hold;
            on = other.on;
            heldSlots = other.heldSlots;
            copyNumbers(other.bytes, bytes);
            size = other.size;
            pointer = other.pointer;
        }

        private int forget() {
            int had = size;
            size = 0;
            pointer = 0;
            return had;
        }

        /** 255 where there is no byte, which is what an empty memory sends. */
        private int byteAt(int place) {
            return place >= 0 && place < size && place < bytes.length ? bytes[place] : 255;
        }

        /** False if the memory is full. */
        private boolean storeByte(int stored) {
            if (size < 0 || size >= bytes.length) {
                return false;
            }
            bytes[size] = stored;
            size++;
            return true;
        }

        private void movePointer() {
            pointer++;
            if (pointer >= size) {
                pointer = 0;
            }
        }

        private int tell(int what) {
            switch (what) {
                case 0: return address;
                case 1: return hold;
                case 2: return size;
                case 3: return pointer;
                case 4: return on ? 1 : 0;
                default: return heldSlots;
            }
        }
    }

    /** The slots that have passed: their numbers, and what the latest ones were. */
    private static final class SlotLog {
        private int passed = 0;
        private int notIdle = 0;
        private int held = 0;
        private final int[] levels = new int[KEPT_SLOTS];
        private final int[] contenders = new int[KEPT_SLOTS];
        private final int[] kinds = new int[KEPT_SLOTS];

        private void copyFrom(SlotLog other) {
            passed = other.passed;
            notIdle = other.notIdle;
            held = other.held;
            copyNumbers(other.levels, levels);
            copyNumbers(other.contenders, contenders);
            copyNumbers(other.kinds, kinds);
        }

        private int keptCount() {
            return Math.min(passed, KEPT_SLOTS);
        }

        private void keep(int kind, int level, int contenderSet) {
            int place = passed & KEPT_SLOTS - 1;
            levels[place] = level;
            contenders[place] = contenderSet;
            kinds[place] = kind;
            passed++;
            if (kind != IDLE) {
                notIdle++;
            }
            if (kind == HELD) {
                held++;
            }
        }

        private int tell(int back, int what) {
            int place = passed - 1 - back & KEPT_SLOTS - 1;
            switch (what) {
                case 0: return levels[place];
                case 1: return contenders[place];
                default: return kinds[place];
            }
        }

        private int lastLevel() {
            return passed == 0 ? 1 : tell(0, 0);
        }
    }

    /** All that undo brings back: callers, listeners, slots, and how far the present transfer is. */
    private static final class Bus {
        private final Caller[] callers = new Caller[MOST_CALLERS];
        private int callerCount = 2;
        private final Listener[] listeners = new Listener[MOST_LISTENERS];
        private int listenerCount = 0;
        private int limit = 4;
        private final SlotLog slots = new SlotLog();
        private int phase = IDLE;
        /** Bit c for the caller c. */
        private int contenders = 0;
        private int partner = NONE;
        private boolean reading = false;
        /** The bits of the present header or byte that have passed, and the number that their levels make. */
        private int bits = 0;
        private int levels = 0;
        /** The bytes of this transfer whose bits have passed. */
        private int bytesDone = 0;
        private int holdLeft = 0;

        private Bus() {
            for (int i = 0; i < callers.length; i++) {
                callers[i] = new Caller();
            }
            for (int i = 0; i < listeners.length; i++) {
                listeners[i] = new Listener();
            }
        }

        private void copyFrom(Bus other) {
            for (int i = 0; i < callers.length && i < other.callers.length; i++) {
                Caller mine = callers[i];
                Caller theirs = other.callers[i];
                if (mine != null && theirs != null) {
                    mine.copyFrom(theirs);
                }
            }
            for (int i = 0; i < listeners.length && i < other.listeners.length; i++) {
                Listener mine = listeners[i];
                Listener theirs = other.listeners[i];
                if (mine != null && theirs != null) {
                    mine.copyFrom(theirs);
                }
            }
            callerCount = other.callerCount;
            listenerCount = other.listenerCount;
            limit = other.limit;
            slots.copyFrom(other.slots);
            copyTransfer(other);
        }

        private void copyTransfer(Bus other) {
            phase = other.phase;
            contenders = other.contenders;
            partner = other.partner;
            reading = other.reading;
            bits = other.bits;
            levels = other.levels;
            bytesDone = other.bytesDone;
            holdLeft = other.holdLeft;
        }

        /** Null if there is no such caller. */
        private Caller callerAt(int number) {
            return number >= 0 && number < callerCount && number < callers.length ? callers[number] : null;
        }

        /** Null if there is no such listener. */
        private Listener listenerAt(int number) {
            return number >= 0 && number < listenerCount && number < listeners.length ? listeners[number] : null;
        }

        private Message firstMessage(int number) {
            Caller asked = callerAt(number);
            return asked == null ? null : asked.messageAt(0);
        }

        private boolean contends(int number) {
            return (contenders >> number & 1) == 1;
        }

        private int listenerWith(int address) {
            for (int n = 0; n < listenerCount; n++) {
                Listener asked = listenerAt(n);
                if (asked != null && asked.address == address) {
                    return n;
                }
            }
            return NONE;
        }

        /** The listener that would answer to this address, or NONE. */
        private int answererTo(int address) {
            int number = listenerWith(address);
            Listener asked = listenerAt(number);
            return asked != null && asked.on ? number : NONE;
        }

        /** The listeners behind the first listenerCount ones are still as they were made. */
        private int placeListener(int address, int hold) {
            int number = listenerCount;
            Listener placed = number >= 0 && number < listeners.length ? listeners[number] : null;
            if (placed == null) {
                return NONE;
            }
            placed.address = address;
            placed.hold = hold;
            listenerCount++;
            return number;
        }

        private int listenersOn() {
            int count = 0;
            for (int n = 0; n < listenerCount; n++) {
                Listener asked = listenerAt(n);
                if (asked != null && asked.on) {
                    count++;
                }
            }
            return count;
        }

        private int tell(int what) {
            switch (what) {
                case 0: return slots.passed;
                case 1: return callerCount;
                case 2: return listenerCount;
                case 3: return limit;
                case 4: return phase == IDLE ? 1 : 0;
                case 5: return contenders;
                case 6: return slots.notIdle;
                case 7: return slots.held;
                case 8: return partner;
                default: return slots.lastLevel();
            }
        }

        private int callersWithMessages() {
            int set = 0;
            for (int c = 0; c < callerCount; c++) {
                if (firstMessage(c) != null) {
                    set |= 1 << c;
                }
            }
            return set;
        }

        /** The lowest header wins, since a 0 on the data line beats a 1. */
        private int lowestHeaders() {
            int lowest = 256;
            int set = 0;
            for (int c = 0; c < callerCount; c++) {
                Message first = firstMessage(c);
                if (first == null || first.header() > lowest) {
                    continue;
                }
                if (first.header() < lowest) {
                    lowest = first.header();
                    set = 0;
                }
                set |= 1 << c;
            }
            return set;
        }

        private int slotsAlone(Message sent) {
            int startHeaderAnswerAndStop = 1 + 8 + 1 + 1;
            Listener answerer = listenerAt(answererTo(sent.address));
            if (answerer == null) {
                return startHeaderAnswerAndStop;
            }
            int bytes = sent.count;
            if (!sent.isRead) {
                // The byte that is refused takes its slots, too.
                bytes = Math.min(bytes, MOST_MEMORY - answerer.size + 1);
            }
            return startHeaderAnswerAndStop + bytes * (answerer.hold + 8 + 1);
        }

        private void passSlots(int count) {
            for (int i = 0; i < count; i++) {
                passSlot();
            }
        }

        /** Answers how many slots passed. */
        private int runToRest() {
            int count = 0;
            while (count < ENOUGH_SLOTS && (phase != IDLE || callersWithMessages() != 0)) {
                passSlot();
                count++;
            }
            return count;
        }

        /** Does what happens in the present slot, and sets the phase of the next one. */
        private void passSlot() {
            if (phase == IDLE && callersWithMessages() != 0) {
                phase = START;
            }
            int kind = phase;
            int level = 1;
            switch (kind) {
                case START: level = startTransfer(); break;
                case HEADER_BIT: level = takeBit(sendBits()); break;
                case HEADER_ANSWER: level = answerHeader(); break;
                case BYTE_BIT: level = takeBit(reading ? readBit() : sendBits()); break;
                case BYTE_ANSWER: level = reading ? answerRead() : answerWrite(); break;
                case HELD: level = holdSlot(); break;
                case STOP: stopTransfer(); break;
                default: break;
            }
            slots.keep(kind, level, contenders);
        }

        private int startTransfer() {
            contenders = callersWithMessages();
            bytesDone = 0;
            expectBits(HEADER_BIT);
            return 0;
        }

        private void expectBits(int kind) {
            phase = kind;
            bits = 0;
            levels = 0;
        }

        private int sendBits() {
            int ones = 0;
            for (int c = 0; c < callerCount; c++) {
                if (contends(c) && sentBit(firstMessage(c)) == 1) {
                    ones |= 1 << c;
                }
            }
            if (ones == contenders) {
                return 1;
            }
            loseBits(ones);
            return 0;
        }

        private int sentBit(Message sent) {
            if (sent == null) {
                return 1;
            }
            int sending = phase == HEADER_BIT ? sent.header() : sent.byteAt(bytesDone);
            return sending >> 7 - bits & 1;
        }

        private void loseBits(int losers) {
            contenders &= ~losers;
            for (int c = 0; c < callerCount; c++) {
                Caller loser = callerAt(c);
                if (loser != null && (losers >> c & 1) == 1) {
                    loser.loseBit(limit);
                }
            }
        }

        private int readBit() {
            Listener sender = listenerAt(partner);
            int sending = sender == null ? 255 : sender.byteAt(sender.pointer);
            return sending >> 7 - bits & 1;
        }

        private int takeBit(int level) {
            levels = 2 * levels + level;
            bits++;
            if (bits == 8) {
                endBits();
            }
            return level;
        }

        private void endBits() {
            if (phase == HEADER_BIT) {
                phase = HEADER_ANSWER;
                return;
            }
            phase = BYTE_ANSWER;
            bytesDone++;
            if (reading) {
                receiveLevels();
            }
        }

        private void receiveLevels() {
            Listener sender = listenerAt(partner);
            if (sender != null) {
                sender.movePointer();
            }
            for (int c = 0; c < callerCount; c++) {
                Caller receiver = callerAt(c);
                if (receiver != null && contends(c)) {
                    receiver.receiveByte(levels);
                }
            }
        }

        /** All contenders that are left have sent the same header, so it is what the levels make. */
        private int answerHeader() {
            reading = (levels & 1) == 1;
            partner = answererTo(levels >> 1);
            if (partner == NONE) {
                endMessages(contenders, NO_ANSWER);
                phase = STOP;
                return 1;
            }
            holdLine();
            return 0;
        }

        private int answerWrite() {
            Listener storer = listenerAt(partner);
            if (storer == null || !storer.storeByte(levels)) {
                endMessages(contenders, REFUSED);
                phase = STOP;
                return 1;
            }
            goOnWith(contendersWithMoreBytes());
            return 0;
        }

        private int answerRead() {
            int wanting = contendersWithMoreBytes();
            goOnWith(wanting);
            return wanting == 0 ? 1 : 0;
        }

        private int contendersWithMoreBytes() {
            int set = 0;
            for (int c = 0; c < callerCount; c++) {
                Message first = firstMessage(c);
                if (contends(c) && first != null && first.count > bytesDone) {
                    set |= 1 << c;
                }
            }
            return set;
        }

        private void goOnWith(int staying) {
            endMessages(contenders & ~staying, DELIVERED);
            if (contenders == 0) {
                phase = STOP;
            } else {
                holdLine();
            }
        }

        private void endMessages(int set, int outcome) {
            contenders &= ~set;
            for (int c = 0; c < callerCount; c++) {
                Caller ending = callerAt(c);
                if (ending != null && (set >> c & 1) == 1) {
                    ending.endFirst(outcome);
                }
            }
        }

        private void holdLine() {
            Listener holder = listenerAt(partner);
            holdLeft = holder == null ? 0 : holder.hold;
            if (holdLeft > 0) {
                phase = HELD;
            } else {
                expectBits(BYTE_BIT);
            }
        }

        private int holdSlot() {
            Listener holder = listenerAt(partner);
            if (holder != null) {
                holder.heldSlots++;
            }
            holdLeft--;
            if (holdLeft <= 0) {
                expectBits(BYTE_BIT);
            }
            return 0;
        }

        private void stopTransfer() {
            partner = NONE;
            phase = IDLE;
        }
    }

    /** The text, and the order of it that was read last. */
    private static final class OrderText {
        private final int[] bytesOfText = new int[MOST_TEXT];
        private int length = 0;
        /** The next byte to be read. */
        private int at = 0;
        /** The syntax error position, or NONE. */
        private int error = NONE;
        private int number = 0;
        private int kind = 0;
        private int callerDigit = 0;
        private int address = 0;
        /** The number of bytes of a write or a read, or the slots to pass. */
        private int amount = 0;
        private long bytes = 0;

        private int add(int added) {
            if (length >= 0 && length < bytesOfText.length) {
                bytesOfText[length] = added;
                length++;
            }
            return length;
        }

        private void rewind() {
            at = 0;
            error = NONE;
        }

        private int findError() {
            rewind();
            int orders = 0;
            while (orders < MOST_TEXT && nextOrder()) {
                orders++;
            }
            return error;
        }

        /** Reads an order; false at the end of the text and at a syntax error. */
        private boolean nextOrder() {
            if (at >= length) {
                return false;
            }
            kind = nextByte();
            switch (kind) {
                case 'w':
                    at++;
                    return readTarget() && take('=') && readBytes() && take(';');
                case 'r':
                    at++;
                    return readTarget() && take('*') && readCount() && take(';');
                case 's':
                    at++;
                    return readSlots() && take(';');
                default:
                    return fail(at);
            }
        }

        private boolean readTarget() {
            if (!readDigit('0', '2')) {
                return false;
            }
            callerDigit = number;
            if (!take(':') || !readNumber(0, MOST_ADDRESS)) {
                return false;
            }
            address = number;
            return true;
        }

        private boolean readBytes() {
            amount = 0;
            bytes = 0;
            do {
                if (!readNumber(0, 255)) {
                    return false;
                }
                bytes = bytes << 8 | number;
                amount++;
            } while (amount < MOST_BYTES && takeIfThere(','));
            return true;
        }

        private boolean readCount() {
            bytes = 0;
            boolean read = readDigit('1', '4');
            amount = number;
            return read;
        }

        private boolean readSlots() {
            boolean read = readNumber(1, MOST_PASS);
            amount = number;
            return read;
        }

        /** One to three digits; the range is looked at as soon as no digit follows. */
        private boolean readNumber(int least, int most) {
            int first = at;
            number = 0;
            while (at < first + 3 && isDigit(nextByte())) {
                number = 10 * number + nextByte() - '0';
                at++;
            }
            if (at == first || isDigit(nextByte())) {
                return fail(at);
            }
            if (number < least || number > most) {
                return fail(first);
            }
            return true;
        }

        private boolean readDigit(int least, int most) {
            int digit = nextByte();
            if (digit < least || digit > most) {
                return fail(at);
            }
            number = digit - '0';
            at++;
            return true;
        }

        private boolean take(int wanted) {
            return takeIfThere(wanted) || fail(at);
        }

        private boolean takeIfThere(int wanted) {
            if (nextByte() != wanted) {
                return false;
            }
            at++;
            return true;
        }

        private boolean fail(int position) {
            error = position;
            return false;
        }

        private static boolean isDigit(int sign) {
            return sign >= '0' && sign <= '9';
        }

        /** NONE behind the end of the text. */
        private int nextByte() {
            return at >= 0 && at < length && at < bytesOfText.length ? bytesOfText[at] : NONE;
        }
    }
}
