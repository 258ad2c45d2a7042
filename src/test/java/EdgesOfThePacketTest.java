/** The edges of promises 1 to 6: a new object, THE PACKET from empty to full, RATES. */
public final class EdgesOfThePacketTest {
    private static final int NONE = Desk.NONE, BAD = Desk.BAD, FULL = Desk.FULL, LEAST = Desk.LEAST, MOST = Desk.MOST;
    private static final String ROOM = "THE PACKET has up to 300 bytes";
    private static final String REFUSALS = "Refusals, the first that fits: BAD -2 (a number not as told, no such thing),"
        + " FULL -3. They change nothing.";

    public static void main(String[] args) {
        aNewObject();
        nowOfANewObject();
        ratesOfANewObject();
        nothingHappenedToANewObject();
        theFewestAndTheMostBytesTyped();
        theLowestBytesAreTyped();
        theHighestByteComesFirst();
        typeFillsThePacketToItsEnd();
        typeBeyondTheEnd();
        typeRefusesInOrder();
        clearOfEmptyAndFull();
        clearLeavesNothingBehind();
        alterAtTheEnds();
        alterToTheEndsOfAByte();
        alterRefuses();
        alterOfEmptyAndFull();
        atTheEnds();
        atOfEmptyAndFull();
        sortsAtTheirEnds();
        ratesAtTheirEnds();
        rateRefuses();
        Check.end();
    }

    /** THE PACKET has so many bytes, each of them 7. */
    private static Desk filled(int size) {
        Desk d = new Desk();
        int[] values = new int[size];
        java.util.Arrays.fill(values, 7);
        d.bytes(values);
        d.count(0).is(size);
        return d;
    }

    private static void aNewObject() {
        Check.promise(1, "No bytes, no SENDERS; DELAY 100.");
        Desk d = new Desk();
        d.count(0).is(0);
        d.at(0).is(BAD);
        d.alter(0, 0).is(BAD);
        d.count(1).is(0);
        d.sender(0, 0).is(LEAST);
        d.next(0).is(0);
        d.time(0, 0).is(BAD);
        d.count(8).is(100);
        d.delay(100).is(100);
        d.clear().is(0);
    }

    private static void nowOfANewObject() {
        Check.promise(1, "NOW is a number of milliseconds (0 at first).");
        Desk d = new Desk();
        d.count(2).is(0);
        d.pass(0).is(0);
        d.count(2).is(0);
    }

    private static void ratesOfANewObject() {
        Check.promise(1, "A PAYLOAD SORT 0 .. 127 has a RATE (stamps in a second; 0 at first: it is not known).");
        Desk d = new Desk();
        for (int sort = 0; sort < 128; sort++) {
            d.rate(sort, 0).is(0);
        }
    }

    private static void nothingHappenedToANewObject() {
        Check.promise(1, "No bytes, no SENDERS");
        Desk d = new Desk();
        for (int what = 3; what <= 7; what++) {
            d.count(what).is(0);
        }
        d.heardIs(0, 0, 0, 0, 0, 0, 0);
        d.event(0, 0).is(NONE);
        d.data(0).is(1);
        d.hear().is(-21);
        d.take().is(-11);
    }

    private static void theFewestAndTheMostBytesTyped() {
        Check.promise(2, "n bytes (0 to 8) come behind THE PACKET");
        Desk d = new Desk();
        d.type(-1, 0).is(0);
        d.type(-1, -1).is(BAD);
        d.type(-1, 9).is(BAD);
        d.type(-1, LEAST).is(BAD);
        d.type(-1, MOST).is(BAD);
        d.at(0).is(BAD);
        d.type(-1, 8).is(8);
        d.type(-1, 0).is(8);
        d.type(-1, 1).is(9);
        d.at(8).is(255);
        d.at(9).is(BAD);
    }

    private static void theLowestBytesAreTyped() {
        Check.promise(2, "the highest of the lowest n of v first: how many it has");
        long v = 0x8090A0B0C0D0E0F0L;
        for (int n = 0; n <= 8; n++) {
            Desk d = new Desk();
            d.type(v, n).is(n);
            for (int i = 0; i < n; i++) {
                d.at(i).is(0xF0 - 0x10 * (n - 1 - i));
            }
        }
        Desk e = new Desk();
        e.type(Long.MIN_VALUE, 8).is(8);
        e.at(0).is(128);
        e.at(7).is(0);
        e.type(Long.MAX_VALUE, 8).is(16);
        e.at(8).is(127);
        e.at(15).is(255);
        e.type(Long.MIN_VALUE, 7).is(23);
        e.at(16).is(0);
    }

    private static void theHighestByteComesFirst() {
        Check.promise(2, "numbers of several bytes have the highest first");
        Desk d = new Desk();
        d.type(0x0102, 2).is(2);
        d.at(0).is(1);
        d.at(1).is(2);
    }

    private static void typeFillsThePacketToItsEnd() {
        Check.promise(2, ROOM);
        filled(299).type(0xAB, 1).is(300);
        Desk d = filled(292);
        d.type(0x0102030405060708L, 8).is(300);
        d.at(291).is(7);
        d.at(292).is(1);
        d.at(299).is(8);
        d.at(300).is(BAD);
        d.type(0, 0).is(300);
    }

    private static void typeBeyondTheEnd() {
        Check.promise(2, ROOM);
        Desk d = filled(293);
        String before = d.seen();
        d.type(0x0102030405060708L, 8).is(FULL);
        d.stays(before);
        d.at(293).is(BAD);
        d.type(9, 7).is(300);
        Desk e = filled(299);
        e.type(9, 2).is(FULL);
        e.at(299).is(BAD);
        Desk f = filled(300);
        before = f.seen();
        f.type(9, 1).is(FULL);
        f.type(9, 8).is(FULL);
        f.stays(before);
        f.at(0).is(7);
        f.at(299).is(7);
    }

    private static void typeRefusesInOrder() {
        Check.promise(2, REFUSALS);
        Desk d = filled(300);
        d.type(9, 9).is(BAD);
        d.type(9, -1).is(BAD);
        d.type(9, MOST).is(BAD);
        d.count(0).is(300);
        Check.promise(2, "how many it has. BAD; FULL.");
        d.type(9, 8).is(FULL);
        d.type(9, 1).is(FULL);
        d.type(9, 0).is(300);
    }

    private static void clearOfEmptyAndFull() {
        Check.promise(3, "THE PACKET is empty: how many it had.");
        Desk d = new Desk();
        d.clear().is(0);
        d.type(1, 1);
        d.clear().is(1);
        d.clear().is(0);
        d.count(0).is(0);
        Desk e = filled(300);
        e.clear().is(300);
        e.clear().is(0);
        e.type(1, 8).is(8);
    }

    private static void clearLeavesNothingBehind() {
        Check.promise(3, "THE PACKET is empty");
        Desk d = filled(20);
        d.clear();
        d.at(0).is(BAD);
        d.alter(0, 1).is(BAD);
        d.data(0).is(1);
        d.type(1, 1).is(1);
        d.at(0).is(1);
        d.at(1).is(BAD);
        d.data(0).is(1);
    }

    private static void alterAtTheEnds() {
        Check.promise(4, "Byte i of it becomes v (0 to 255): what it was.");
        Desk d = new Desk();
        d.bytes(10, 20, 30);
        d.alter(0, 11).is(10);
        d.alter(2, 33).is(30);
        d.alter(3, 44).is(BAD);
        d.alter(-1, 44).is(BAD);
        d.at(0).is(11);
        d.at(1).is(20);
        d.at(2).is(33);
        d.count(0).is(3);
    }

    private static void alterToTheEndsOfAByte() {
        Check.promise(4, "Byte i of it becomes v (0 to 255): what it was.");
        Desk d = new Desk();
        d.bytes(1);
        d.alter(0, 0).is(1);
        d.alter(0, 255).is(0);
        d.alter(0, 128).is(255);
        d.alter(0, 127).is(128);
        d.alter(0, 127).is(127);
    }

    private static void alterRefuses() {
        Check.promise(4, "what it was. BAD.");
        Desk d = new Desk();
        d.bytes(1, 2);
        String before = d.seen();
        d.alter(0, 256).is(BAD);
        d.alter(0, -1).is(BAD);
        d.alter(1, LEAST).is(BAD);
        d.alter(1, MOST).is(BAD);
        d.alter(LEAST, 5).is(BAD);
        d.alter(MOST, 5).is(BAD);
        d.alter(2, 256).is(BAD);
        Check.promise(4, REFUSALS);
        d.stays(before);
    }

    private static void alterOfEmptyAndFull() {
        Check.promise(4, ROOM);
        new Desk().alter(0, 0).is(BAD);
        Desk d = filled(300);
        d.alter(299, 8).is(7);
        d.at(299).is(8);
        d.alter(300, 8).is(BAD);
    }

    private static void atTheEnds() {
        Check.promise(5, "Byte i of it. BAD.");
        Desk d = new Desk();
        d.bytes(0, 128, 255);
        d.at(0).is(0);
        d.at(1).is(128);
        d.at(2).is(255);
        d.at(3).is(BAD);
        d.at(-1).is(BAD);
        d.at(LEAST).is(BAD);
        d.at(MOST).is(BAD);
    }

    private static void atOfEmptyAndFull() {
        Check.promise(5, ROOM);
        new Desk().at(0).is(BAD);
        Desk d = filled(300);
        d.at(0).is(7);
        d.at(299).is(7);
        d.at(300).is(BAD);
        d.at(301).is(BAD);
    }

    private static void sortsAtTheirEnds() {
        Check.promise(6, "A PAYLOAD SORT 0 .. 127 has a RATE");
        Desk d = new Desk();
        d.rate(0, 1).is(0);
        d.rate(127, 2).is(0);
        d.rate(-1, 3).is(BAD);
        d.rate(128, 3).is(BAD);
        d.rate(255, 3).is(BAD);
        d.rate(LEAST, 3).is(BAD);
        d.rate(MOST, 3).is(BAD);
        d.rate(1, 0).is(0);
        d.rate(126, 0).is(0);
        d.rate(0, 0).is(1);
        d.rate(127, 0).is(2);
    }

    private static void ratesAtTheirEnds() {
        Check.promise(6, "RATE (0 to 200000) of a SORT: what it was.");
        Desk d = new Desk();
        d.rate(5, 0).is(0);
        d.rate(5, 1).is(0);
        d.rate(5, 200000).is(1);
        d.rate(5, 199999).is(200000);
        d.rate(5, 0).is(199999);
    }

    private static void rateRefuses() {
        Check.promise(6, "what it was. BAD.");
        Desk d = new Desk();
        d.rate(5, 9);
        d.rate(5, 200001).is(BAD);
        d.rate(5, -1).is(BAD);
        d.rate(5, LEAST).is(BAD);
        d.rate(5, MOST).is(BAD);
        d.rate(128, 200001).is(BAD);
        Check.promise(6, REFUSALS);
        d.rate(5, 9).is(9);
    }
}
