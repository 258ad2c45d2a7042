/** The edges of promises 18 and 19, and of how long an object is used. */
public final class EdgesOfCountsTest {
    private static final int BAD = Desk.BAD, LEAST = Desk.LEAST, MOST = Desk.MOST;
    private static final String COUNTS = "0 bytes, 1 SENDERS, 2 NOW, 3 EVENTS in all, 4 DATA that were GOOD, 5 NOT YET,"
        + " 6 with FAULTS (by take()), 7 REPORTS heard without FAULTS, 8 DELAY. BAD.";
    private static final String DIGEST = "h is 17; h becomes 31 h and each of: count() 0 to 8, of each SENDER sender()"
        + " 0 to 16, next(), the bytes of THE PACKET; as longs that wrap.";

    public static void main(String[] args) {
        countIsAskedAtItsEnds();
        countsOfANewObject();
        countsAtTheirMost();
        faultsByTakeAlone();
        reportsWithoutFaultsAlone();
        refusedCallsAreNotCounted();
        digestOfANewObject();
        digestOfOneByte();
        digestOfSendersAndBytes();
        digestOfTheMost();
        askingChangesNothing();
        theLastCallIsAnswered();
        Check.end();
    }

    private static void countsAre(Desk d, long... want) {
        for (int what = 0; what < want.length; what++) {
            d.count(what).is(want[what]);
        }
    }

    private static void countIsAskedAtItsEnds() {
        Check.promise(18, COUNTS);
        Desk d = new Desk();
        d.count(-1).is(BAD);
        d.count(0).is(0);
        d.count(8).is(100);
        d.count(9).is(BAD);
        d.count(LEAST).is(BAD);
        d.count(MOST).is(BAD);
    }

    private static void countsOfANewObject() {
        Check.promise(18, COUNTS);
        countsAre(new Desk(), 0, 0, 0, 0, 0, 0, 0, 0, 100);
    }

    private static void countsAtTheirMost() {
        Check.promise(18, COUNTS);
        Desk d = Desk.rated();
        d.delay(5000);
        for (int s = 0; s < 7; s++) {
            d.send(s, 9, 0);
        }
        for (int s = 0; s < 6; s++) {
            d.send(s, 10, 0).is(1);
        }
        d.pass(10000).is(6);
        d.report(0).is(152);
        d.hear().is(1);
        for (int k = 0; k < 18; k++) {
            d.type(0, 8);
        }
        d.type(0, 4).is(300);
        countsAre(d, 300, 6, 10000, 12, 6, 6, 1, 1, 5000);
    }

    private static void faultsByTakeAlone() {
        Check.promise(18, "6 with FAULTS (by take())");
        Desk d = new Desk();
        d.data(0).is(1);
        d.hear().is(-21);
        d.count(6).is(0);
        d.take().is(-11);
        d.take().is(-11);
        d.count(6).is(2);
        d.rate(0, 1000);
        d.send(9, 10, 0).is(0);
        d.count(6).is(2);
    }

    private static void reportsWithoutFaultsAlone() {
        Check.promise(18, "7 REPORTS heard without FAULTS");
        Desk d = new Desk();
        d.report(0);
        d.count(7).is(0);
        d.hear().is(1);
        d.hear().is(1);
        d.count(7).is(2);
        d.type(0, 1);
        d.hear().is(-21);
        d.count(7).is(2);
    }

    private static void refusedCallsAreNotCounted() {
        Check.promise(18, "They change nothing.");
        Desk d = Desk.believed(9, 10);
        String before = d.seen();
        d.type(0, 9).is(BAD);
        d.alter(12, 0).is(BAD);
        d.at(12).is(BAD);
        d.rate(128, 0).is(BAD);
        d.data(10).is(BAD);
        d.pass(10001).is(BAD);
        d.delay(5001).is(BAD);
        d.sender(1, 0).is(LEAST);
        d.next(1).is(0);
        d.time(1, 10).is(BAD);
        d.event(0, 4).is(BAD);
        d.event(1, 0).is(Desk.NONE);
        d.heard(7).is(BAD);
        d.count(9).is(BAD);
        d.stays(before);
    }

    private static long digestOf(long... numbers) {
        long h = 17;
        for (long number : numbers) {
            h = 31 * h + number;
        }
        return h;
    }

    private static void digestOfANewObject() {
        Check.promise(19, DIGEST);
        new Desk().digest().is(digestOf(0, 0, 0, 0, 0, 0, 0, 0, 100));
    }

    private static void digestOfOneByte() {
        Check.promise(19, DIGEST);
        Desk d = new Desk();
        d.type(255, 1);
        d.digest().is(digestOf(1, 0, 0, 0, 0, 0, 0, 0, 100, 255));
        d.clear();
        d.digest().is(digestOf(0, 0, 0, 0, 0, 0, 0, 0, 100));
    }

    private static void digestOfSendersAndBytes() {
        Check.promise(19, DIGEST);
        Desk d = Desk.rated();
        d.send(LEAST, 65535, 0).is(0);
        d.send(8, 3, 0).is(0);
        d.send(LEAST, 0, 0).is(1);
        d.send(LEAST, 0, LEAST).is(1);
        d.pass(100).is(1);
        d.digest().is(digestOf(12, 2, 100, 3, 2, 2, 0, 0, 100,
            LEAST, 0, 0, 0, 65537, 0, 2, LEAST, 1, -1, 1, 0, 0, 0, 1, 0, 0, 1,
            8, 3, 0, 3, 65537, 1, 0, 0, 0, 0, 0, 0, 0, 0, 0, 0, 0, 0,
            128, 0, 0, 0, 128, 0, 0, 0, 128, 0, 0, 0));
    }

    private static void digestOfTheMost() {
        Check.promise(19, DIGEST);
        Desk d = Desk.rated();
        long[] numbers = new long[9 + 6 * 18 + 300];
        for (int s = 0; s < 6; s++) {
            d.send(s, 10, 0).is(0);
            long[] sender = {s, 10, 0, 10, 65537, 1, 0, 0, 0, 0, 0, 0, 0, 0, 0, 0, 0, 0};
            System.arraycopy(sender, 0, numbers, 9 + 18 * s, 18);
        }
        int[] bytes = new int[300];
        for (int i = 0; i < 300; i++) {
            bytes[i] = 255 - i & 255;
            numbers[9 + 6 * 18 + i] = bytes[i];
        }
        d.bytes(bytes);
        long[] counts = {300, 6, 0, 0, 0, 6, 0, 0, 100};
        System.arraycopy(counts, 0, numbers, 0, 9);
        d.digest().is(digestOf(numbers));
    }

    private static void askingChangesNothing() {
        Check.promise(19, DIGEST);
        Desk d = Desk.believed(9, 10);
        String before = d.seen();
        d.at(0).is(128);
        d.data(0).is(0);
        d.sender(0, 0).is(9);
        d.next(0).is(10);
        d.time(0, 10).is(100);
        d.event(0, 0).is(6);
        d.heard(0).is(0);
        d.count(0).is(12);
        d.digest();
        d.stays(before);
    }

    private static void theLastCallIsAnswered() {
        Check.promise(7, "An object is used for at most 512 calls after it has been made; what later calls answer is free.");
        Desk d = Desk.rated();
        d.type(0x80000009L << 32, 8);
        d.type(9, 4);
        d.take().is(0);
        d.alter(3, 10);
        for (int calls = 5; calls < 510; calls++) {
            d.take().is(1);
        }
        // The first of them began, the others are TWICE.
        d.count(3).is(505);
        d.sender(0, 6).is(505);
    }
}
