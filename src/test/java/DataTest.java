/** Promises 7 and 8: what THE PACKET tells as DATA, and its FAULTS. */
public final class DataTest {
    public static void main(String[] args) {
        fieldsOfAPlainPacket();
        fieldsOfAFullPacket();
        wordsWithoutPAndX();
        faultOfShortness();
        faultOfVersion();
        faultOfWords();
        faultOfExtension();
        faultOfFilling();
        faultOfRate();
        faultOfTheSeventhSender();
        theFirstFaultIsTold();
        faultsChangeNothing();
        Check.end();
    }

    private static void fields(String name, StreamDesk d, long... want) {
        for (int what = 0; what < want.length; what++) {
            Check.due(name + " data(" + what + ")", d.data(what), want[what]);
        }
    }

    private static void fieldsOfAPlainPacket() {
        StreamDesk d = Wire.desk();
        Wire.bytes(d, 0x80, 0x80, 0xFE, 0xDC, 0xFF, 0xFF, 0xFF, 0xFE, 0x80, 0, 0, 1, 7, 8, 9);
        fields("plain", d, 0, 1, 0, 0xFEDC, -2, 0x80000001, 0, 12, 3, 0);
        Check.due("data(10)", d.data(10), StreamDesk.BAD);
        Check.due("data(-1)", d.data(-1), StreamDesk.BAD);
        d.alter(1, 0);
        Check.due("M off", d.data(1), 0);
    }

    private static void fieldsOfAFullPacket() {
        StreamDesk d = new StreamDesk();
        d.rate(127, 1);
        // P, X, two C words, an extension of one word, two bytes of payload, two of filling.
        Wire.words(d, 0xB27F0102L, 3, 4, 50, 51, 0xABCD0001L, 60, 0x01020002L);
        fields("full", d, 0, 0, 127, 0x0102, 3, 4, 2, 28, 2, 0xABCD);
        d.alter(31, 4);
        Check.due("all is filling", d.data(8), 0);
        Check.due("the place stays", d.data(7), 28);
    }

    private static void wordsWithoutPAndX() {
        StreamDesk d = Wire.desk();
        Wire.words(d, 0x8F000001L, 2, 3);
        for (int word = 0; word < 15; word++) {
            d.type(0x0000FFFF, 4);
        }
        d.type(0, 2);
        fields("all of C", d, 0, 0, 0, 1, 2, 3, 15, 72, 2, 0);
    }

    private static void faultOfShortness() {
        StreamDesk d = Wire.desk();
        Check.due("empty", d.take(), -11);
        Wire.bytes(d, 0x80, 0, 0, 1, 0, 0, 0, 0, 0, 0, 9);
        fields("11 bytes", d, 1, 0, 0, 0, 0, 0, 0, 0, 0, 0);
        Check.due("take of 11 bytes", d.take(), -11);
        d.type(9, 1);
        Check.due("12 bytes", d.data(0), 0);
    }

    private static void faultOfVersion() {
        StreamDesk d = Wire.desk();
        for (int first : new int[] {0x00, 0x40, 0xC0}) {
            Wire.words(d, (long) first << 24 | 1, 2, 3);
            fields("V of " + first, d, 2, 0, 0, 0, 0, 0, 0, 0, 0, 0);
            Check.due("take with V of " + first, d.take(), -12);
        }
        Check.due("data(10) of a fault", d.data(10), StreamDesk.BAD);
    }

    private static void faultOfWords() {
        StreamDesk d = Wire.desk();
        Wire.words(d, 0x82000001L, 2, 3, 4);
        d.type(0, 3);
        fields("one byte of C missing", d, 3, 0, 0, 0, 0, 0, 0, 0, 0, 0);
        Check.due("take", d.take(), -13);
        d.type(0, 1);
        Check.due("all of C", d.data(0), 0);
        Check.due("its place", d.data(7), 20);
    }

    private static void faultOfExtension() {
        StreamDesk d = Wire.desk();
        Wire.words(d, 0x90000001L, 2, 3);
        Check.due("no head of X", d.data(0), 4);
        d.type(0, 3);
        fields("a byte of X missing", d, 4, 0, 0, 0, 0, 0, 0, 0, 0, 0);
        d.type(0, 1);
        Check.due("X with no words", d.data(0), 0);
        d.alter(15, 2);
        d.type(0, 7);
        Check.due("a byte of its words missing", d.take(), -14);
        d.type(0, 1);
        Check.due("all its words", d.data(0), 0);
        d.alter(14, 255);
        Check.due("very many words", d.data(0), 4);
    }

    private static void faultOfFilling() {
        StreamDesk d = Wire.desk();
        Wire.words(d, 0xA0000001L, 2, 3);
        Check.due("P without a byte behind the head", d.take(), -15);
        d.alter(11, 0);
        Check.due("P with 0 in the head's end", d.data(0), 5);
        d.type(0x0102, 2);
        Check.due("filling of both", d.data(0), 0);
        Check.due("no payload", d.data(8), 0);
        d.alter(13, 3);
        fields("filling of one more", d, 5, 0, 0, 0, 0, 0, 0, 0, 0, 0);
        d.alter(13, 0);
        Check.due("filling of 0", d.data(0), 5);
        d.alter(13, 1);
        Check.due("filling of 1", d.data(8), 1);
    }

    private static void faultOfRate() {
        StreamDesk d = Wire.desk();
        Wire.words(d, 0x80850007L, 2, 3);
        fields("no RATE", d, 6, 1, 5, 7, 2, 3, 0, 12, 0, 0);
        Check.due("take without RATE", d.take(), -16);
        d.rate(5, 1);
        Check.due("take with RATE", d.take(), 0);
        d.rate(5, 0);
        Check.due("take with RATE taken away", d.take(), -16);
    }

    private static void faultOfTheSeventhSender() {
        StreamDesk d = Wire.desk();
        for (int s = 0; s < 6; s++) {
            Check.due("SENDER " + s, Wire.take(d, 100 - s, 1, 0), 0);
        }
        Check.due("the seventh", Wire.take(d, 7, 1, 0), -17);
        fields("the seventh", d, 7, 0, 0, 1, 0, 7, 0, 12, 0, 0);
        Check.due("SENDERS", d.count(1), 6);
        Check.due("the sixth is known", Wire.take(d, 95, 2, 0), 1);
        for (int s = 0; s < 6; s++) {
            Check.due("bytes of SENDER " + s, d.sender(s, 0), 100 - s);
        }
        Check.due("no SENDER 6", d.sender(6, 0), Wire.BAD_SENDER);
        d.rate(0, 0);
        Check.due("RATE ahead of the seventh", Wire.take(d, 7, 1, 0), -16);
    }

    private static void theFirstFaultIsTold() {
        StreamDesk d = new StreamDesk();
        // Each step mends the first of all the FAULTS that are there at once.
        Wire.bytes(d, 0x71, 5, 0, 1, 0, 0, 0, 0, 0, 0, 0);
        Check.due("fault 1", d.data(0), 1);
        d.type(3, 1);
        Check.due("fault 2", d.data(0), 2);
        d.alter(0, 0xB1);
        Check.due("fault 3", d.data(0), 3);
        d.type(0, 4);
        Check.due("fault 4", d.data(0), 4);
        d.type(0, 4);
        Check.due("fault 5", d.data(0), 5);
        d.type(1, 1);
        Check.due("fault 6", d.data(0), 6);
        d.rate(5, 1);
        Check.due("no fault", d.data(0), 0);
    }

    private static void faultsChangeNothing() {
        StreamDesk d = Wire.believed(9, 10);
        Wire.words(d, 0x8001000BL, 0, 9);
        long before = d.digest();
        Check.due("a fault", d.take(), -16);
        Check.due("one fault counted", d.count(6), 1);
        Check.due("GOT", d.sender(0, 6), 1);
        Check.due("TOP", d.sender(0, 1), 10);
        Check.due("data changes nothing", d.data(0), 6);
        Check.due("faults of data() are not counted", d.count(6), 1);
        Check.holds("the digest sees the count", before != d.digest());
        Wire.words(d, 0x80010001L, 0, 77);
        d.take();
        Check.due("no SENDER by a fault", d.count(1), 1);
        Check.due("THE PACKET stays", d.count(0), 12);
    }
}
