/** Promises 7 and 11: probation, numbers that go round, jitter, and what sender() tells. */
public final class NumbersTest {
    private static final int TOP = 1, ROUNDS = 2, BASE = 3, ODD = 4, WAIT = 5, GOT = 6, JITTER = 7, DUE = 8, LOST = 9;

    public static void main(String[] args) {
        probation();
        probationGoesRound();
        probationStartsAgain();
        numbersAhead();
        numbersGoRound();
        oldOnesAndTwice();
        oddOnes();
        setAnew();
        jitterOfOrdinaryStamps();
        jitterIsRoundedDown();
        jitterThatWraps();
        jitterUsesTheSortsRate();
        senderRefuses();
        playingIsCounted();
        Check.end();
    }

    private static void sender(String name, StreamDesk d, int what, long want) {
        Check.due(name + " sender(0, " + what + ")", d.sender(0, what), want);
    }

    private static void probation() {
        StreamDesk d = Wire.desk();
        Check.due("the first", Wire.take(d, -5, 700, 0), 0);
        long[] first = {-5, 700, 0, 700, 65537, 1, 0, 0, 0, 0, 0, 0, 0, 0, 0, 0, 0};
        for (int what = 0; what < first.length; what++) {
            sender("after the first", d, what, first[what]);
        }
        Check.due("the second", Wire.take(d, -5, 701, 0), 1);
        long[] second = {-5, 701, 0, 701, 65537, 0, 1, 0, 1, 0, 0, 0, 0, 0, 0, 1, 0};
        for (int what = 0; what < second.length; what++) {
            sender("after the second", d, what, second[what]);
        }
    }

    private static void probationGoesRound() {
        StreamDesk d = Wire.desk();
        Check.due("65535", Wire.take(d, 1, 65535, 0), 0);
        Check.due("0 behind it", Wire.take(d, 1, 0, 0), 1);
        sender("round", d, BASE, 0);
        sender("round", d, ROUNDS, 0);
        StreamDesk e = Wire.desk();
        Check.due("0", Wire.take(e, 1, 0, 0), 0);
        Check.due("TOP", e.sender(0, TOP), 0);
        Check.due("WAIT", e.sender(0, WAIT), 1);
    }

    private static void probationStartsAgain() {
        StreamDesk d = Wire.desk();
        Wire.take(d, 1, 5, 0);
        Check.due("a gap", Wire.take(d, 1, 7, 0), 0);
        sender("a gap", d, WAIT, 1);
        sender("a gap", d, TOP, 7);
        sender("a gap leaves BASE", d, BASE, 5);
        Check.due("twice", Wire.take(d, 1, 7, 0), 0);
        sender("twice", d, WAIT, 1);
        Check.due("before it", Wire.take(d, 1, 6, 0), 0);
        Check.due("behind that", Wire.take(d, 1, 7, 0), 1);
        sender("believed", d, BASE, 7);
        sender("believed", d, GOT, 1);
        Check.due("NOT YET", d.count(5), 4);
        Check.due("GOOD", d.count(4), 1);
    }

    private static void numbersAhead() {
        StreamDesk d = Wire.believed(1, 100);
        Check.due("2999 ahead", Wire.take(d, 1, 3099, 0), 1);
        sender("2999 ahead", d, TOP, 3099);
        sender("2999 ahead", d, DUE, 3000);
        sender("2999 ahead", d, LOST, 2998);
        Check.due("3000 ahead", Wire.take(d, 1, 6099, 0), 0);
        sender("3000 ahead", d, TOP, 3099);
        sender("3000 ahead", d, ODD, 6100);
        sender("3000 ahead", d, GOT, 2);
    }

    private static void numbersGoRound() {
        StreamDesk d = Wire.believed(1, 65535);
        Check.due("0 behind 65535", Wire.take(d, 1, 0, 0), 1);
        sender("round", d, ROUNDS, 65536);
        sender("round", d, TOP, 0);
        sender("round", d, DUE, 2);
        sender("round", d, LOST, 0);
        Check.due("its LONG NUMBER waits", d.time(0, 65536), 100);
        Check.due("before the round", Wire.take(d, 1, 65534, 0), 1);
        sender("before the round", d, ROUNDS, 65536);
        Check.due("LATE", d.event(0, 0), 3);
        Check.due("the LONG NUMBER less 65536", d.event(0, 2), 65534);
        StreamDesk e = Wire.believed(1, 5);
        Check.due("old at the start", Wire.take(e, 1, 65500, 0), 1);
        Check.due("a LONG NUMBER below 0", e.event(0, 2), -36);
    }

    private static void oldOnesAndTwice() {
        StreamDesk d = Wire.believed(1, 1000);
        Check.due("99 behind", Wire.take(d, 1, 901, 0), 1);
        sender("99 behind", d, GOT, 2);
        sender("99 behind", d, TOP, 1000);
        sender("99 behind", d, LOST, -1);
        Check.due("100 behind", Wire.take(d, 1, 900, 0), 0);
        sender("100 behind", d, ODD, 901);
        sender("100 behind", d, GOT, 2);
        Check.due("the same", Wire.take(d, 1, 1000, 0), 1);
        sender("the same", d, GOT, 3);
        sender("the same", d, ROUNDS, 0);
    }

    private static void oddOnes() {
        StreamDesk d = Wire.believed(1, 10);
        Check.due("65435 is far off", Wire.take(d, 1, 40000, 0), 0);
        sender("odd", d, ODD, 40001);
        Check.due("another odd one", Wire.take(d, 1, 50000, 0), 0);
        sender("another", d, ODD, 50001);
        Check.due("not behind the latest", Wire.take(d, 1, 40001, 0), 0);
        sender("not behind the latest", d, ODD, 40002);
        StreamDesk e = Wire.believed(1, 30000);
        Wire.take(e, 1, 65535, 0);
        sender("ODD goes round", e, ODD, 0);
        Check.due("behind it", Wire.take(e, 1, 0, 0), 1);
        sender("SET by 0", e, BASE, 0);
    }

    private static void setAnew() {
        StreamDesk d = Wire.believed(1, 65535);
        Wire.take(d, 1, 0, 0);
        Wire.take(d, 1, 20000, 0);
        d.pass(7);
        Check.due("SET anew", Wire.take(d, 1, 20001, 0), 1);
        long[] want = {1, 20001, 0, 20001, 65537, 0, 1};
        for (int what = 0; what < want.length; what++) {
            sender("SET anew", d, what, want[what]);
        }
        Check.due("BEGINS", d.event(0, 0), 6);
        Check.due("its LONG NUMBER", d.event(0, 2), 20001);
        Check.due("NEXT", d.next(0), 20001);
        sender("what waited is forgotten", d, 15, 1);
        Check.due("its TIME", d.time(0, 20001), 107);
        Check.due("nothing LOST by it", d.sender(0, 11), 0);
    }

    private static void jitterOfOrdinaryStamps() {
        StreamDesk d = Wire.believed(1, 1);
        sender("the first TRANSIT is kept alone", d, JITTER, 0);
        d.pass(20);
        Wire.take(d, 1, 2, 20);
        sender("even", d, JITTER, 0);
        d.pass(50);
        Wire.take(d, 1, 3, 40);
        sender("30 too late", d, JITTER, 30);
        Wire.take(d, 1, 4, 60);
        // 20 sooner than the one before it: 30 + 20 - (30 + 8) / 16
        sender("20 sooner", d, JITTER, 48);
        Wire.take(d, 1, 60000, 999);
        sender("NOT YET does not count", d, JITTER, 48);
        Wire.take(d, 1, 4, 60);
        sender("TWICE counts", d, JITTER, 45);
    }

    private static void jitterIsRoundedDown() {
        StreamDesk d = Wire.believed(1, 1);
        Wire.take(d, 1, 2, 8);
        sender("8", d, JITTER, 8);
        Wire.take(d, 1, 3, 8);
        sender("8 and 8 by 16 less", d, JITTER, 7);
        Wire.take(d, 1, 4, 8);
        sender("7 and 8 are below 16", d, JITTER, 7);
    }

    private static void jitterThatWraps() {
        StreamDesk d = Wire.believed(1, 1);
        Wire.take(d, 1, 2, Integer.MIN_VALUE);
        sender("the least d stays so", d, JITTER, Integer.MIN_VALUE);
        Wire.take(d, 1, 3, Integer.MIN_VALUE);
        sender("rounded down", d, JITTER, Integer.MIN_VALUE - (Integer.MIN_VALUE + 8 >> 4));
        StreamDesk e = Wire.believed(1, 1);
        Wire.take(e, 1, 2, -1);
        sender("a size", e, JITTER, 1);
        StreamDesk f = new StreamDesk();
        f.rate(0, 200000);
        Wire.take(f, 1, 1, 0);
        for (int k = 0; k < 3; k++) {
            f.pass(10000);
        }
        Wire.take(f, 1, 2, 0);
        for (int k = 0; k < 300; k++) {
            f.pass(10000);
        }
        Wire.take(f, 1, 3, 0);
        // 3,030,000 ms are 606,000,000 stamps, 30,000 ms are 6,000,000.
        Check.due("no wrap ahead of the division", f.sender(0, JITTER), 600000000);
    }

    private static void jitterUsesTheSortsRate() {
        StreamDesk d = Wire.believed(1, 1);
        d.rate(9, 1500);
        d.pass(1001);
        Wire.takeSort(d, 9, 1, 2, 1000);
        // 1001 times 1500 by 1000 is 1501, cut.
        sender("RATE of its SORT", d, JITTER, 501);
    }

    private static void senderRefuses() {
        StreamDesk d = Wire.believed(1, 1);
        Check.due("sender(0, 17)", d.sender(0, 17), Wire.BAD_SENDER);
        Check.due("sender(0, -1)", d.sender(0, -1), Wire.BAD_SENDER);
        Check.due("sender(1, 0)", d.sender(1, 0), Wire.BAD_SENDER);
        Check.due("sender(-1, 0)", d.sender(-1, 0), Wire.BAD_SENDER);
        Check.due("sender(6, 0)", d.sender(6, 0), Wire.BAD_SENDER);
    }

    private static void playingIsCounted() {
        StreamDesk d = Wire.believed(1, 10);
        Wire.take(d, 1, 9, 0);
        Wire.take(d, 1, 9, 0);
        Wire.take(d, 1, 60, 0);
        Wire.take(d, 1, 61, 0);
        Wire.take(d, 1, 62, 0);
        Wire.take(d, 1, 10, 0);
        Wire.take(d, 1, 15, 0);
        d.pass(100);
        long[] want = {2, 4, 2, 3, 1, 0, 0};
        for (int what = 10; what <= 16; what++) {
            sender("playing", d, what, want[what - 10]);
        }
    }
}
