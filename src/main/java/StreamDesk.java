/**
 * A receiver of streams after RFC 3550. The words in capitals in the comments are those of the
 * document that says what each call promises.
 */
public final class StreamDesk {
    public static final int NONE = -1, BAD = -2, FULL = -3;

    private static final int LEAST_INT = -2147483648;
    private static final int MOST_BYTES_TYPED = 8;
    private static final int SORTS = 128;
    private static final int MOST_RATE = 200000;
    private static final int MOST_PASSED = 10000;
    private static final int MOST_NOW = 100000000;
    private static final int MOST_DELAY = 5000;
    private static final int FIRST_DELAY = 100;
    private static final int MOST_SENDERS = 6;
    private static final int FAULT_ANSWER = -10;
    private static final int NUMBERS_ROUND = 65536;
    private static final int HEARD_NUMBERS = 7;

    private final Packet packet = new Packet();
    private final EventLog log = new EventLog();
    private final int[] rates = new int[SORTS];
    private final Sender[] senders = new Sender[MOST_SENDERS];
    private final int[] heardBlock = new int[HEARD_NUMBERS];
    private int senderCount;
    private int now;
    private int playDelay = FIRST_DELAY;
    private int goodCount;
    private int notYetCount;
    private int faultCount;
    private int reportCount;
    private int ownBytes;

    public StreamDesk() {
    }

    // ---- the packet

    public int type(long v, int n) {
        if (n < 0 || n > MOST_BYTES_TYPED) {
            return BAD;
        }
        if (packet.size + n > Packet.ROOM) {
            return FULL;
        }
        packet.append(v, n);
        return packet.size;
    }

    public int clear() {
        int had = packet.size;
        packet.size = 0;
        return had;
    }

    public int alter(int i, int v) {
        if (!packet.has(i) || v < 0 || v > 255) {
            return BAD;
        }
        int was = packet.byteAt(i);
        packet.replace(i, v);
        return was;
    }

    public int at(int i) {
        return packet.has(i) ? packet.byteAt(i) : BAD;
    }

    public int rate(int sort, int rate) {
        if (sort < 0 || sort >= SORTS || rate < 0 || rate > MOST_RATE) {
            return BAD;
        }
        int was = rates[sort];
        rates[sort] = rate;
        return was;
    }

    // ---- data

    public int take() {
        int fault = dataFault();
        Sender from = fault == 0 ? senderThatSent() : null;
        if (from == null) {
            faultCount++;
            return FAULT_ANSWER - fault;
        }
        int rate = rateOf(DataForm.sort(packet));
        if (from.receive(DataForm.number(packet), DataForm.stamp(packet), rate, now, playDelay)) {
            goodCount++;
            return 1;
        }
        notYetCount++;
        return 0;
    }

    public int data(int what) {
        if (what < 0 || what > 9) {
            return BAD;
        }
        if (what == 0) {
            return dataFault();
        }
        return DataForm.shapeFault(packet) != 0 ? 0 : DataForm.field(packet, what);
    }

    private int dataFault() {
        int fault = DataForm.shapeFault(packet);
        if (fault != 0) {
            return fault;
        }
        if (rateOf(DataForm.sort(packet)) == 0) {
            return 6;
        }
        boolean full = senderCount >= MOST_SENDERS;
        return full && senderWith(DataForm.source(packet)) == null ? 7 : 0;
    }

    private int rateOf(int sort) {
        return sort >= 0 && sort < SORTS ? rates[sort] : 0;
    }

    /** The SENDER of THE PACKET, made if it is new; null only if there is no room for it. */
    private Sender senderThatSent() {
        Sender known = senderWith(DataForm.source(packet));
        if (known != null || senderCount < 0 || senderCount >= MOST_SENDERS) {
            return known;
        }
        Player player = new Player(log, senderCount);
        Sender made = new Sender(DataForm.source(packet), DataForm.number(packet), player);
        senders[senderCount] = made;
        senderCount++;
        return made;
    }

    private Sender senderWith(int bytes) {
        for (int s = 0; s < MOST_SENDERS; s++) {
            Sender one = senderNumbered(s);
            if (one != null && one.bytes == bytes) {
                return one;
            }
        }
        return null;
    }

    private Sender senderNumbered(int s) {
        return s >= 0 && s < senderCount && s < MOST_SENDERS ? senders[s] : null;
    }

    // ---- time

    public int pass(int milliseconds) {
        if (milliseconds < 0 || milliseconds > MOST_PASSED) {
            return BAD;
        }
        if (now + milliseconds > MOST_NOW) {
            return FULL;
        }
        now += milliseconds;
        int done = 0;
        for (int s = 0; s < MOST_SENDERS; s++) {
            Sender one = senderNumbered(s);
            if (one != null) {
                done += one.player.playDue(now);
            }
        }
        return done;
    }

    public int delay(int milliseconds) {
        if (milliseconds < 0 || milliseconds > MOST_DELAY) {
            return BAD;
        }
        int was = playDelay;
        playDelay = milliseconds;
        return was;
    }

    // ---- senders

    public int sender(int s, int what) {
        Sender one = senderNumbered(s);
        return one == null || what < 0 || what > 16 ? LEAST_INT : one.field(what);
    }

    public long next(int s) {
        Sender one = senderNumbered(s);
        return one == null ? 0 : one.player.nextNumber;
    }

    public long time(int s, long n) {
        Sender one = senderNumbered(s);
        if (one == null) {
            return BAD;
        }
        return one.player.waits(n) ? one.player.timeOf(n) : NONE;
    }

    public long event(int i, int what) {
        if (!log.keeps(i)) {
            return NONE;
        }
        return what < 0 || what > 3 ? BAD : log.field(i, what);
    }

    // ---- reports

    public int report(int own) {
        ownBytes = own;
        int blocks = 0;
        for (int s = 0; s < MOST_SENDERS; s++) {
            blocks += senderReported(s) != null ? 1 : 0;
        }
        packet.size = 0;
        packet.append(128 + blocks, 1);
        packet.append(ReportForm.RECEIVER, 1);
        packet.append(1 + blocks * (ReportForm.BLOCK / 4), 2);
        packet.append(own, 4);
        for (int s = 0; s < MOST_SENDERS; s++) {
            Sender one = senderReported(s);
            if (one != null) {
                one.writeBlock(packet, now);
            }
        }
        return packet.size;
    }

    /** SENDER s, if a REPORT has a BLOCK of it; else null. */
    private Sender senderReported(int s) {
        Sender one = senderNumbered(s);
        return one != null && one.numbers.probation == 0 && !one.left ? one : null;
    }

    public int hear() {
        int fault = ReportForm.fault(packet);
        if (fault != 0) {
            return FAULT_ANSWER - fault;
        }
        int parts = 0;
        int place = 0;
        while (parts < ReportForm.MOST_PARTS && place < packet.size) {
            hearPart(place);
            place = ReportForm.end(packet, place);
            parts++;
        }
        reportCount++;
        return parts;
    }

    private void hearPart(int place) {
        int sort = ReportForm.sort(packet, place);
        if (sort == ReportForm.LEAVING) {
            hearLeaving(place);
            return;
        }
        if (sort == ReportForm.SENDING) {
            hearClock(place);
        }
        if (sort == ReportForm.SENDING || sort == ReportForm.RECEIVER) {
            hearBlocks(place, ReportForm.leastLength(sort, 0));
        }
    }

    private void hearClock(int place) {
        Sender one = senderWith(packet.wordAt(place + 4));
        if (one != null) {
            one.keepClock(packet.wordAt(place + 10), now);
        }
    }

    private void hearBlocks(int place, int headLength) {
        int blocks = ReportForm.counted(packet, place);
        for (int k = 0; k < blocks; k++) {
            int block = place + headLength + k * ReportForm.BLOCK;
            if (packet.wordAt(block) == ownBytes) {
                keepBlock(block, packet.wordAt(place + 4));
            }
        }
    }

    private void keepBlock(int block, int teller) {
        heardBlock[0] = packet.byteAt(block + 4);
        // LOST has three bytes: the shift down spreads its sign over the fourth.
        heardBlock[1] = packet.wordAt(block + 4) << 8 >> 8;
        heardBlock[2] = packet.wordAt(block + 8);
        heardBlock[3] = packet.wordAt(block + 12);
        heardBlock[4] = packet.wordAt(block + 16);
        heardBlock[5] = packet.wordAt(block + 20);
        heardBlock[6] = teller;
    }

    private void hearLeaving(int place) {
        int leaving = ReportForm.counted(packet, place);
        for (int k = 0; k < leaving; k++) {
            Sender one = senderWith(packet.wordAt(place + 4 + 4 * k));
            if (one != null) {
                one.leave(now);
            }
        }
    }

    public int heard(int what) {
        return what < 0 || what >= HEARD_NUMBERS ? BAD : heardBlock[what];
    }

    public int count(int what) {
        switch (what) {
            case 0: return packet.size;
            case 1: return senderCount;
            case 2: return now;
            case 3: return log.total;
            case 4: return goodCount;
            case 5: return notYetCount;
            case 6: return faultCount;
            case 7: return reportCount;
            case 8: return playDelay;
            default: return BAD;
        }
    }

    public long digest() {
        long h = 17;
        for (int what = 0; what <= 8; what++) {
            h = 31 * h + count(what);
        }
        for (int s = 0; s < senderCount; s++) {
            for (int what = 0; what <= 16; what++) {
                h = 31 * h + sender(s, what);
            }
            h = 31 * h + next(s);
        }
        for (int i = 0; i < packet.size; i++) {
            h = 31 * h + packet.byteAt(i);
        }
        return h;
    }

    /** THE PACKET. What lies behind its end reads as 0, so that no place has to be trusted. */
    private static final class Packet {
        static final int ROOM = 300;

        final int[] bytes = new int[ROOM];
        int size;

        boolean has(int i) {
            return i >= 0 && i < size && i < ROOM;
        }

        int byteAt(int i) {
            return i >= 0 && i < size && i < ROOM ? bytes[i] : 0;
        }

        int halfAt(int i) {
            return byteAt(i) << 8 | byteAt(i + 1);
        }

        int wordAt(int i) {
            return halfAt(i) << 16 | halfAt(i + 2);
        }

        void replace(int i, int v) {
            if (has(i)) {
                bytes[i] = v & 255;
            }
        }

        void append(long v, int n) {
            for (int k = n - 1; k >= 0; k--) {
                if (size >= 0 && size < ROOM) {
                    bytes[size] = (int) (v >>> 8 * k) & 255;
                    size++;
                }
            }
        }
    }

    /** THE PACKET read as DATA. What the others answer holds only where shapeFault answers 0. */
    private static final class DataForm {
        static final int HEAD = 12;
        static final int FILLED = 32;
        static final int EXTENDED = 16;

        /** FAULTS 1 to 5, which the bytes alone decide; 0 without one. */
        static int shapeFault(Packet packet) {
            if (packet.size < HEAD) {
                return 1;
            }
            if (packet.byteAt(0) >> 6 != 2) {
                return 2;
            }
            if (wordsEnd(packet) > packet.size) {
                return 3;
            }
            if (payloadPlace(packet) > packet.size) {
                return 4;
            }
            int room = packet.size - payloadPlace(packet);
            boolean filledWell = filling(packet) > 0 && filling(packet) <= room;
            return firstHas(packet, FILLED) && !filledWell ? 5 : 0;
        }

        static int field(Packet packet, int what) {
            switch (what) {
                case 1: return packet.byteAt(1) >> 7;
                case 2: return sort(packet);
                case 3: return number(packet);
                case 4: return stamp(packet);
                case 5: return source(packet);
                case 6: return words(packet);
                case 7: return payloadPlace(packet);
                case 8: return packet.size - payloadPlace(packet) - filling(packet);
                case 9: return firstHas(packet, EXTENDED) ? packet.halfAt(wordsEnd(packet)) : 0;
                default: return 0;
            }
        }

        static int sort(Packet packet) {
            return packet.byteAt(1) & 127;
        }

        static int number(Packet packet) {
            return packet.halfAt(2);
        }

        static int stamp(Packet packet) {
            return packet.wordAt(4);
        }

        static int source(Packet packet) {
            return packet.wordAt(8);
        }

        private static int words(Packet packet) {
            return packet.byteAt(0) & 15;
        }

        private static boolean firstHas(Packet packet, int bit) {
            return (packet.byteAt(0) & bit) != 0;
        }

        private static int wordsEnd(Packet packet) {
            return HEAD + 4 * words(packet);
        }

        private static int payloadPlace(Packet packet) {
            int end = wordsEnd(packet);
            return firstHas(packet, EXTENDED) ? end + 4 + 4 * packet.halfAt(end + 2) : end;
        }

        private static int filling(Packet packet) {
            return firstHas(packet, FILLED) ? packet.byteAt(packet.size - 1) : 0;
        }
    }

    /** THE PACKET read as a REPORT; a PART is named by the place of its first byte. */
    private static final class ReportForm {
        static final int SENDING = 200;
        static final int RECEIVER = 201;
        static final int LEAVING = 203;
        static final int BLOCK = 24;
        static final int MOST_PARTS = Packet.ROOM / 4;
        static final int FILLED = 32;

        static int fault(Packet packet) {
            if (packet.size < 8 || packet.size % 4 != 0) {
                return 11;
            }
            if (sort(packet, 0) != SENDING && sort(packet, 0) != RECEIVER || isFilled(packet, 0)) {
                return 12;
            }
            int place = 0;
            for (int part = 0; part < MOST_PARTS && place < packet.size; part++) {
                int fault = partFault(packet, place);
                if (fault != 0) {
                    return fault;
                }
                place = end(packet, place);
            }
            return 0;
        }

        private static int partFault(Packet packet, int place) {
            if (packet.byteAt(place) >> 6 != 2) {
                return 13;
            }
            if (end(packet, place) > packet.size) {
                return 14;
            }
            int sort = sort(packet, place);
            if (end(packet, place) - place < leastLength(sort, counted(packet, place))) {
                return 15;
            }
            // 202, the chunks, lies between these and is not looked into.
            boolean unknown = sort < SENDING || sort > LEAVING;
            return unknown || isFilled(packet, place) && end(packet, place) < packet.size ? 16 : 0;
        }

        /** How many bytes a PART of that sort needs for what it counts. */
        static int leastLength(int sort, int counted) {
            switch (sort) {
                case SENDING: return 28 + BLOCK * counted;
                case RECEIVER: return 8 + BLOCK * counted;
                case LEAVING: return 4 + 4 * counted;
                default: return 4;
            }
        }

        static int sort(Packet packet, int place) {
            return packet.byteAt(place + 1);
        }

        static int counted(Packet packet, int place) {
            return packet.byteAt(place) & 31;
        }

        static int end(Packet packet, int place) {
            return place + 4 + 4 * packet.halfAt(place + 2);
        }

        private static boolean isFilled(Packet packet, int place) {
            return (packet.byteAt(place) & FILLED) != 0;
        }
    }

    private static final class Sender {
        final int bytes;
        final Numbers numbers;
        final Jitter jitter = new Jitter();
        final Player player;
        boolean left;
        boolean hasClock;
        int clockMiddle;
        int clockNow;

        Sender(int bytes, int firstNumber, Player player) {
            this.bytes = bytes;
            this.numbers = new Numbers(firstNumber);
            this.player = player;
        }

        /** Whether the DATA that came is GOOD; if so it goes on to JITTER and to PLAYING. */
        boolean receive(int number, int stamp, int rate, int now, int delay) {
            int verdict = numbers.judge(number);
            if (verdict == Numbers.NOT_YET) {
                return false;
            }
            jitter.follow((int) ((long) now * rate / 1000) - stamp);
            long longNumber = numbers.longNumber(number);
            if (verdict == Numbers.GOOD_AND_SET) {
                player.begin(longNumber, stamp, now, delay);
            } else {
                player.arrive(longNumber, stamp, rate, now, delay);
            }
            // Only one that WAITS can be due now; behind the others this finds nothing.
            player.playDue(now);
            return true;
        }

        void keepClock(int middle, int now) {
            hasClock = true;
            clockMiddle = middle;
            clockNow = now;
        }

        void leave(int now) {
            if (!left) {
                left = true;
                player.forgetWaiting();
                player.note(EventLog.LEAVES, 0, now);
            }
        }

        int field(int what) {
            if (what >= 10 && what <= 14) {
                return player.noted(EventLog.PLAYED + what - 10);
            }
            boolean believed = numbers.probation == 0;
            switch (what) {
                case 0: return bytes;
                case 1: return numbers.top;
                case 2: return numbers.rounds;
                case 3: return numbers.base;
                case 4: return numbers.odd;
                case 5: return numbers.probation;
                case 6: return numbers.got;
                case 7: return jitter.value;
                case 8: return believed ? numbers.due() : 0;
                case 9: return believed ? numbers.lost() : 0;
                case 15: return player.waiting;
                case 16: return left ? 1 : 0;
                default: return LEAST_INT;
            }
        }

        void writeBlock(Packet packet, int now) {
            packet.append(bytes, 4);
            packet.append(numbers.takeFraction(), 1);
            packet.append(numbers.lost(), 3);
            packet.append(numbers.rounds + numbers.top, 4);
            packet.append(jitter.value >> 4, 4);
            packet.append(hasClock ? clockMiddle : 0, 4);
            packet.append(hasClock ? (long) (now - clockNow) * 65536 / 1000 : 0, 4);
        }
    }

    /** The NUMBERS of one SENDER: its probation (WAIT), and how they go round. */
    private static final class Numbers {
        static final int NOT_YET = 0;
        static final int GOOD = 1;
        static final int GOOD_AND_SET = 2;
        static final int LOW_BITS = NUMBERS_ROUND - 1;
        // No NUMBER has this one, so none that comes is ODD by chance.
        static final int NO_ODD = NUMBERS_ROUND + 1;
        static final int FIRST_PROBATION = 2;
        static final int AHEAD_BELOW = 3000;
        static final int BEHIND_ABOVE = NUMBERS_ROUND - 100;
        static final int LEAST_LOST = -8388608;
        static final int MOST_LOST = 8388607;

        int top;
        int rounds;
        int base;
        int odd;
        int probation;
        int got;
        int gotBefore;
        int dueBefore;

        Numbers(int first) {
            setBy(first);
            top = first - 1 & LOW_BITS;
            probation = FIRST_PROBATION;
        }

        private void setBy(int q) {
            base = q;
            top = q;
            odd = NO_ODD;
            rounds = 0;
            got = 0;
            gotBefore = 0;
            dueBefore = 0;
        }

        int judge(int q) {
            int verdict = probation > 0 ? judgeOnProbation(q) : judgeBelieved(q);
            if (verdict != NOT_YET) {
                got++;
            }
            return verdict;
        }

        private int judgeOnProbation(int q) {
            boolean follows = q == (top + 1 & LOW_BITS);
            probation = follows ? probation - 1 : 1;
            top = q;
            if (probation > 0) {
                return NOT_YET;
            }
            setBy(q);
            return GOOD_AND_SET;
        }

        private int judgeBelieved(int q) {
            int ahead = q - top & LOW_BITS;
            if (ahead < AHEAD_BELOW) {
                rounds += q < top ? NUMBERS_ROUND : 0;
                top = q;
                return GOOD;
            }
            if (ahead > BEHIND_ABOVE) {
                return GOOD;
            }
            if (q == odd) {
                setBy(q);
                return GOOD_AND_SET;
            }
            odd = q + 1 & LOW_BITS;
            return NOT_YET;
        }

        long longNumber(int q) {
            long here = (long) rounds + q;
            return q > top ? here - NUMBERS_ROUND : here;
        }

        int due() {
            return rounds + top - base + 1;
        }

        int lost() {
            return Math.max(LEAST_LOST, Math.min(MOST_LOST, due() - got));
        }

        /** The FRACTION since the last BLOCK; the next one counts from here. */
        int takeFraction() {
            long due = due() - dueBefore;
            long missing = due - (got - gotBefore);
            dueBefore = due();
            gotBefore = got;
            return due == 0 || missing <= 0 ? 0 : (int) (256 * missing / due) & 255;
        }
    }

    private static final class Jitter {
        int value;
        private int kept;
        private boolean hasKept;

        void follow(int transit) {
            if (hasKept) {
                value += Math.abs(transit - kept) - (value + 8 >> 4);
            }
            kept = transit;
            hasKept = true;
        }
    }

    /** PLAYING of one SENDER. All that WAIT lie less than WINDOW above NEXT, each in its own slot. */
    private static final class Player {
        static final int WINDOW = 32;

        final EventLog log;
        final int senderNumber;
        final int[] notes = new int[EventLog.KINDS];
        final long[] times = new long[WINDOW];
        final boolean[] held = new boolean[WINDOW];
        int waiting;
        long nextNumber;
        long beginTime;
        int beginStamp;

        Player(EventLog log, int senderNumber) {
            this.log = log;
            this.senderNumber = senderNumber;
        }

        void begin(long n, int stamp, int now, int delay) {
            forgetWaiting();
            nextNumber = n;
            beginTime = (long) now + delay;
            beginStamp = stamp;
            note(EventLog.BEGINS, n, now);
            hold(n, beginTime);
        }

        void arrive(long n, int stamp, int rate, int now, int delay) {
            if (n < nextNumber) {
                note(EventLog.LATE, n, now);
            } else if (n - nextNumber >= WINDOW && waiting == 0) {
                begin(n, stamp, now, delay);
            } else if (n - nextNumber >= WINDOW) {
                note(EventLog.FAR, n, now);
            } else if (waits(n)) {
                note(EventLog.TWICE, n, now);
            } else {
                hold(n, beginTime + sinceBegin(stamp, rate));
            }
        }

        private long sinceBegin(int stamp, int rate) {
            long stamps = stamp - beginStamp;
            return rate > 0 ? Math.floorDiv(stamps * 1000, (long) rate) : 0;
        }

        private void hold(long n, long time) {
            int slot = slotOf(n);
            times[slot] = time;
            held[slot] = true;
            waiting++;
        }

        private static int slotOf(long n) {
            return (int) Math.floorMod(n, (long) WINDOW);
        }

        boolean waits(long n) {
            return n >= nextNumber && n - nextNumber < WINDOW && held[slotOf(n)];
        }

        long timeOf(long n) {
            return times[slotOf(n)];
        }

        void forgetWaiting() {
            for (int slot = 0; slot < WINDOW; slot++) {
                held[slot] = false;
            }
            waiting = 0;
        }

        /** Plays all whose TIME has come; how many are PLAYED and LOST by that. */
        int playDue(int now) {
            int done = 0;
            for (int turn = 0; turn < WINDOW && waiting > 0; turn++) {
                int gap = gapToDue(now);
                if (gap == WINDOW) {
                    break;
                }
                for (int k = 0; k < gap; k++) {
                    step(EventLog.LOST, now);
                }
                step(EventLog.PLAYED, now);
                done += gap + 1;
            }
            return done;
        }

        /** How far above NEXT the least LONG NUMBER lies whose TIME has come; WINDOW: there is none. */
        private int gapToDue(int now) {
            for (int gap = 0; gap < WINDOW; gap++) {
                int slot = slotOf(nextNumber + gap);
                if (held[slot] && times[slot] <= now) {
                    return gap;
                }
            }
            return WINDOW;
        }

        private void step(int kind, int now) {
            int slot = slotOf(nextNumber);
            waiting -= held[slot] ? 1 : 0;
            held[slot] = false;
            note(kind, nextNumber, now);
            nextNumber++;
        }

        void note(int kind, long n, int now) {
            if (kind >= 0 && kind < EventLog.KINDS) {
                notes[kind]++;
            }
            log.add(kind, senderNumber, n, now);
        }

        int noted(int kind) {
            return kind >= 0 && kind < EventLog.KINDS ? notes[kind] : 0;
        }
    }

    /** The latest EVENTS, in rows that are written round and round. */
    private static final class EventLog {
        // PLAYED to TWICE stand in the order in which sender() counts them.
        static final int PLAYED = 1;
        static final int LOST = 2;
        static final int LATE = 3;
        static final int FAR = 4;
        static final int TWICE = 5;
        static final int BEGINS = 6;
        static final int LEAVES = 7;
        static final int KINDS = 8;
        static final int KEPT = 64;

        final int[] kinds = new int[KEPT];
        final int[] senderNumbers = new int[KEPT];
        final long[] longNumbers = new long[KEPT];
        final int[] nows = new int[KEPT];
        int total;

        void add(int kind, int senderNumber, long n, int now) {
            int slot = Math.floorMod(total, KEPT);
            kinds[slot] = kind;
            senderNumbers[slot] = senderNumber;
            longNumbers[slot] = n;
            nows[slot] = now;
            total++;
        }

        boolean keeps(int i) {
            return i >= 0 && i < KEPT && i < total;
        }

        long field(int i, int what) {
            int slot = Math.floorMod(total - 1 - i, KEPT);
            switch (what) {
                case 0: return kinds[slot];
                case 1: return senderNumbers[slot];
                case 2: return longNumbers[slot];
                case 3: return nows[slot];
                default: return NONE;
            }
        }
    }
}
