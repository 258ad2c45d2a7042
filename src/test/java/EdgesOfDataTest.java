/** The edges of promises 7 and 8: FAULTS 1 to 7, each beside the nearest packet without it, and all that data() tells. */
public final class EdgesOfDataTest {
    private static final int BAD = Desk.BAD, LEAST = Desk.LEAST, MOST = Desk.MOST;
    private static final int P = 32, X = 16;
    private static final String WITH_A_FAULT = "With one of FAULTS 1 to 5 all but 0 are 0. BAD.";

    public static void main(String[] args) {
        fewerThanTwelveBytes();
        version();
        bitsOfTheFirstByte();
        oneWord();
        allFifteenWords();
        theHeadOfX();
        theWordsOfX();
        asManyWordsOfXAsFit();
        xBehindTheWords();
        fillingOfNone();
        fillingAtItsEnds();
        fillingBehindX();
        theMostFilling();
        rateOfItsSort();
        theSeventhSender();
        aSenderThatHasLeftKeepsItsPlace();
        theFirstFaultIsTold();
        faultsOneToFiveTellNothing();
        faultsSixAndSevenTellAll();
        faultsChangeNothing();
        goodOrNotYet();
        takenWithoutBeingChanged();
        whatDataIsAsked();
        theLeastThatDataTells();
        theMostThatDataTells();
        numbersOfFourBytes();
        placesOfThePayload();
        bytesBehindX();
        Check.end();
    }

    /** A DATA packet of SORT 0, NUMBER 1, STAMP 2, SENDER 3; what comes behind that is 0. */
    private static int[] data(int first, int size) {
        int[] head = {first, 0, 0, 1, 0, 0, 0, 2, 0, 0, 0, 3};
        return java.util.Arrays.copyOf(head, size);
    }

    private static int[] data(int first, int size, int last) {
        int[] bytes = data(first, size);
        bytes[size - 1] = last;
        return bytes;
    }

    /** With the head of X, which comes at that place. */
    private static int[] dataWithX(int first, int size, int place, int words) {
        int[] bytes = data(first, size);
        bytes[place + 2] = words >> 8;
        bytes[place + 3] = words & 255;
        return bytes;
    }

    private static void fault(int fault, int... bytes) {
        Desk d = Desk.rated();
        d.bytes(bytes);
        d.data(0).is(fault);
        d.take().is(-10 - fault);
        d.count(6).is(1);
        d.count(1).is(0);
    }

    private static void sound(int... bytes) {
        Desk d = Desk.rated();
        d.bytes(bytes);
        d.data(0).is(0);
        d.take().is(0);
        d.count(6).is(0);
        d.count(1).is(1);
    }

    private static void fewerThanTwelveBytes() {
        Check.promise(7, "1 fewer than 12 bytes;");
        for (int size = 0; size < 12; size++) {
            fault(1, data(128, size));
        }
        sound(data(128, 12));
        sound(data(128, 13));
        sound(data(128, 300));
    }

    private static void version() {
        Check.promise(7, "A DATA packet: bits 7 and 6 of its first byte are 2 (V);");
        sound(data(128, 12));
        Check.promise(7, "2 V;");
        fault(2, data(0, 12));
        fault(2, data(64, 12));
        fault(2, data(192, 12));
        fault(2, data(127, 300));
    }

    private static void bitsOfTheFirstByte() {
        Check.promise(8, "bit 5 P, bit 4 X, the lower four C;");
        int[][] firstAndPlace = {{128, 12, 0}, {128 + P, 12, 1}, {128 + X, 16, 0}, {128 + 1, 16, 0}, {128 + 2, 20, 0},
            {128 + 4, 28, 0}, {128 + 8, 44, 0}, {128 + P + X + 15, 76, 1}};
        for (int[] one : firstAndPlace) {
            Desk d = Desk.rated();
            d.bytes(data(one[0], 77, 1));
            d.data(0).is(0);
            d.data(6).is(one[0] & 15);
            d.data(7).is(one[1]);
            d.data(8).is(77 - one[1] - one[2]);
        }
    }

    private static void oneWord() {
        Check.promise(7, "3 the C words are not all there;");
        fault(3, data(128 + 1, 12));
        fault(3, data(128 + 1, 15));
        sound(data(128 + 1, 16));
        sound(data(128, 12));
    }

    private static void allFifteenWords() {
        Check.promise(7, "3 the C words are not all there;");
        fault(3, data(128 + 15, 12));
        fault(3, data(128 + 15, 71));
        sound(data(128 + 15, 72));
        sound(data(128 + 15, 300));
    }

    private static void theHeadOfX() {
        Check.promise(7, "4 what X tells is not;");
        for (int size = 12; size < 16; size++) {
            fault(4, data(128 + X, size));
        }
        sound(data(128 + X, 16));
    }

    private static void theWordsOfX() {
        Check.promise(7, "with X two bytes, the number of words that follow (2 bytes), and these;");
        fault(4, dataWithX(128 + X, 16, 12, 1));
        fault(4, dataWithX(128 + X, 19, 12, 1));
        sound(dataWithX(128 + X, 20, 12, 1));
        sound(dataWithX(128 + X, 21, 12, 1));
        fault(4, dataWithX(128 + X, 300, 12, 256));
        fault(4, dataWithX(128 + X, 300, 12, 65535));
    }

    private static void asManyWordsOfXAsFit() {
        Check.promise(7, "4 what X tells is not;");
        sound(dataWithX(128 + X, 300, 12, 71));
        fault(4, dataWithX(128 + X, 299, 12, 71));
        fault(4, dataWithX(128 + X, 300, 12, 72));
        sound(dataWithX(128 + X + 15, 300, 72, 56));
        fault(4, dataWithX(128 + X + 15, 300, 72, 57));
    }

    private static void xBehindTheWords() {
        Check.promise(7, "the SENDER (4), C words of 4 bytes; with X two bytes");
        fault(3, data(128 + X + 15, 71));
        fault(4, data(128 + X + 15, 72));
        fault(4, data(128 + X + 15, 75));
        sound(data(128 + X + 15, 76));
        // What lies in the C words is no head of X.
        sound(dataWithX(128 + X + 1, 20, 12, 65535));
    }

    private static void fillingOfNone() {
        Check.promise(7, "5 P: the last byte is 0");
        fault(5, data(128 + P, 12, 0));
        fault(5, data(128 + P, 13, 0));
        fault(5, data(128 + P, 300, 0));
        sound(data(128 + P, 13, 1));
        sound(data(128, 13, 0));
    }

    private static void fillingAtItsEnds() {
        Check.promise(7, "or more than come behind that;");
        fault(5, data(128 + P, 12, 1));
        fault(5, data(128 + P, 13, 2));
        sound(data(128 + P, 13, 1));
        fault(5, data(128 + P, 14, 3));
        sound(data(128 + P, 14, 2));
        sound(data(128 + P, 14, 1));
    }

    private static void fillingBehindX() {
        Check.promise(7, "or more than come behind that;");
        // The last byte tells, at once, of no words behind X and of no filling.
        fault(5, data(128 + P + X, 16));
        fault(5, data(128 + P + X, 17, 2));
        sound(data(128 + P + X, 17, 1));
        fault(5, data(128 + P + 1, 16, 1));
        sound(data(128 + P + 1, 17, 1));
        int[] words = dataWithX(128 + P + X, 20, 12, 1);
        words[19] = 1;
        fault(5, words);
    }

    private static void theMostFilling() {
        Check.promise(8, "the PAYLOAD; with P the last byte tells how many bytes at the end, that one too, are none of"
            + " it.");
        fault(5, data(128 + P, 266, 255));
        sound(data(128 + P, 267, 255));
        Desk d = Desk.rated();
        d.bytes(data(128 + P, 267, 255));
        d.data(7).is(12);
        d.data(8).is(0);
        d.bytes(data(128 + P, 300, 255));
        d.data(8).is(33);
        d.bytes(data(128 + P, 300, 1));
        d.data(8).is(287);
        d.bytes(data(128, 300, 1));
        d.data(8).is(288);
    }

    private static void rateOfItsSort() {
        Check.promise(7, "6 the RATE of its SORT is 0;");
        Desk d = new Desk();
        d.bytes(data(128, 12));
        d.data(0).is(6);
        d.take().is(-16);
        d.rate(0, 1);
        d.data(0).is(0);
        d.take().is(0);
        d.rate(0, 0);
        d.take().is(-16);
        d.rate(0, 200000);
        d.take().is(0);
        d.alter(1, 127);
        d.take().is(-16);
        d.rate(127, 1);
        d.take().is(0);
        d.alter(1, 255);
        d.take().is(0);
        d.alter(1, 254);
        d.take().is(-16);
    }

    private static void theSeventhSender() {
        Check.promise(7, "7 the seventh SENDER.");
        Desk d = Desk.rated();
        for (int s = 0; s < 5; s++) {
            d.send(s, 1, 0).is(0);
        }
        d.count(1).is(5);
        d.send(5, 1, 0).is(0);
        d.count(1).is(6);
        d.send(6, 1, 0).is(-17);
        d.data(0).is(7);
        d.send(-1, 1, 0).is(-17);
        d.count(1).is(6);
        d.count(6).is(2);
        d.send(5, 2, 0).is(1);
        d.send(0, 2, 0).is(1);
        d.sender(6, 0).is(LEAST);
    }

    private static void aSenderThatHasLeftKeepsItsPlace() {
        Check.promise(7, "7 the seventh SENDER.");
        Desk d = Desk.rated();
        for (int s = 0; s < 6; s++) {
            d.send(s, 1, 0).is(0);
        }
        d.leaves(3);
        d.send(6, 1, 0).is(-17);
        d.send(3, 2, 0).is(1);
    }

    private static void theFirstFaultIsTold() {
        Check.promise(7, "FAULTS of it, the first:");
        Desk d = new Desk();
        d.rate(9, 1);
        for (int s = 0; s < 6; s++) {
            d.sendSort(9, 100 + s, 1, 0).is(0);
        }
        // Each step mends the first of all the FAULTS that THE PACKET has at once.
        d.bytes(64 + P + X + 1, 5, 0, 1, 0, 0, 0, 0, 0, 0, 0);
        d.take().is(-11);
        d.type(3, 1);
        d.take().is(-12);
        d.alter(0, 128 + P + X + 1);
        d.take().is(-13);
        d.type(0, 4);
        d.take().is(-14);
        d.type(0, 4);
        d.take().is(-15);
        d.type(1, 1);
        d.take().is(-16);
        d.rate(5, 1);
        d.take().is(-17);
        d.alter(11, 106);
        d.take().is(-17);
        d.alter(11, 105);
        d.take().is(0);
    }

    private static void faultsOneToFiveTellNothing() {
        Check.promise(8, WITH_A_FAULT);
        int[][] packets = {data(159, 11, 9), data(64 + 15, 300, 9), data(128 + 1, 15, 9), data(128 + X, 15, 9),
            data(128 + P, 13, 2)};
        for (int fault = 1; fault <= 5; fault++) {
            Desk d = Desk.rated();
            d.bytes(packets[fault - 1]);
            if (fault > 1) {
                d.alter(1, 255);
            }
            d.data(0).is(fault);
            for (int what = 1; what <= 9; what++) {
                d.data(what).is(0);
            }
            d.data(10).is(BAD);
            d.data(-1).is(BAD);
        }
    }

    private static void faultsSixAndSevenTellAll() {
        Check.promise(8, WITH_A_FAULT);
        Desk d = new Desk();
        int[] want = {1, 127, 1, 2, 3, 0, 12, 0, 0};
        d.bytes(data(128, 12));
        d.alter(1, 255);
        d.data(0).is(6);
        for (int what = 1; what <= 9; what++) {
            d.data(what).is(want[what - 1]);
        }
        d.rate(127, 1);
        for (int s = 0; s < 6; s++) {
            d.sendSort(127, 100 + s, 1, 0).is(0);
        }
        d.bytes(data(128, 12));
        d.alter(1, 255);
        d.data(0).is(7);
        for (int what = 1; what <= 9; what++) {
            d.data(what).is(want[what - 1]);
        }
    }

    private static void faultsChangeNothing() {
        Check.promise(7, "-10 less the FAULT (nothing is changed by it).");
        int[][] packets = {{}, data(64, 12), data(128 + 1, 12), data(128 + X, 12), data(128 + P, 12), data(128, 12)};
        for (int fault = 1; fault <= 6; fault++) {
            Desk d = Desk.believed(3, 1);
            d.sendSort(0, 4, 1, 0).is(0);
            d.pass(5);
            d.rate(0, fault == 6 ? 0 : 1000);
            d.bytes(packets[fault - 1]);
            d.take().is(-10 - fault);
            long[] counts = {packets[fault - 1].length, 2, 5, 1, 1, 2, 1, 0, 100};
            for (int what = 0; what < counts.length; what++) {
                d.count(what).is(counts[what]);
            }
            d.senderIs(0, 0, 3, 1, 0, 1, 65537, 0, 1, 0, 1, 0, 0, 0, 0, 0, 0, 1, 0);
            d.senderIs(1, 0, 4, 1, 0, 1, 65537, 1, 0, 0, 0, 0, 0, 0, 0, 0, 0, 0, 0);
            d.time(0, 1).is(100);
            d.next(0).is(1);
        }
    }

    private static void goodOrNotYet() {
        Check.promise(7, "THE PACKET, as DATA: 1 GOOD; 0 NOT YET;");
        Desk d = Desk.rated();
        d.bytes(data(128, 12));
        d.take().is(0);
        d.take().is(0);
        d.alter(3, 2);
        d.take().is(1);
        d.take().is(1);
        d.alter(2, 128);
        d.take().is(0);
        d.alter(3, 3);
        d.take().is(1);
        // What it is made of beside its head does not matter.
        d.bytes(data(128 + P + X + 1, 30, 2));
        d.alter(2, 128);
        d.alter(3, 4);
        d.take().is(1);
        d.count(4).is(4);
        d.count(5).is(3);
        d.count(6).is(0);
    }

    private static void takenWithoutBeingChanged() {
        Check.promise(7, "THE PACKET, as DATA: 1 GOOD; 0 NOT YET;");
        Desk d = Desk.rated();
        d.words(0x80000001L, 2, 3, 0x04050607L);
        d.take().is(0);
        d.alter(3, 2);
        d.take().is(1);
        d.packetIs(0x80000002L, 2, 3, 0x04050607L);
    }

    private static void whatDataIsAsked() {
        Check.promise(8, "Of THE PACKET as DATA: 0 its FAULT (0 none), 1 M");
        Desk d = Desk.rated();
        d.data(-1).is(BAD);
        d.data(0).is(1);
        d.data(9).is(0);
        d.data(10).is(BAD);
        d.data(LEAST).is(BAD);
        d.data(MOST).is(BAD);
        d.bytes(data(128, 12));
        d.data(0).is(0);
        d.data(-1).is(BAD);
        d.data(10).is(BAD);
        d.count(6).is(0);
        d.count(1).is(0);
    }

    private static void theLeastThatDataTells() {
        Check.promise(8, "1 M, 2 the SORT, 3 the NUMBER, 4 the STAMP, 5 the SENDER, 6 C, 7 the place of the PAYLOAD,"
            + " 8 how many bytes that has, 9 the two bytes behind X (0 without).");
        Desk d = Desk.rated();
        d.bytes(128, 0, 0, 0, 0, 0, 0, 0, 0, 0, 0, 0);
        int[] want = {0, 0, 0, 0, 0, 0, 0, 12, 0, 0};
        for (int what = 0; what <= 9; what++) {
            d.data(what).is(want[what]);
        }
        d.take().is(0);
    }

    private static void theMostThatDataTells() {
        Check.promise(8, "the second one: bit 7 M, the others the SORT; then the NUMBER (2 bytes), the STAMP (4),"
            + " the SENDER (4)");
        Desk d = new Desk();
        d.rate(127, 1);
        int[] bytes = new int[300];
        java.util.Arrays.fill(bytes, 255);
        bytes[0] = 128 + P + X + 15;
        bytes[74] = 0;
        bytes[75] = 0;
        bytes[299] = 224;
        d.bytes(bytes);
        long[] want = {0, 1, 127, 65535, -1, -1, 15, 76, 0, 65535};
        for (int what = 0; what <= 9; what++) {
            d.data(what).is(want[what]);
        }
        d.alter(299, 225).is(224);
        d.data(0).is(5);
        d.alter(299, 224).is(225);
        d.alter(1, 127).is(255);
        d.data(1).is(0);
        d.data(2).is(127);
        d.alter(1, 128).is(127);
        d.data(1).is(1);
        d.data(2).is(0);
        d.data(0).is(6);
    }

    private static void numbersOfFourBytes() {
        Check.promise(8, "4 the STAMP, 5 the SENDER");
        Desk d = Desk.rated();
        d.words(0x80000000L, 0x7FFFFFFFL, 0x80000000L);
        d.data(4).is(MOST);
        d.data(5).is(LEAST);
        d.words(0x80000000L, 0x80000000L, 0x7FFFFFFFL);
        d.data(4).is(LEAST);
        d.data(5).is(MOST);
        d.words(0x80000102L, 0x03040506L, 0x0708090AL);
        d.data(3).is(0x0102);
        d.data(4).is(0x03040506);
        d.data(5).is(0x0708090A);
    }

    private static void placesOfThePayload() {
        Check.promise(8, "7 the place of the PAYLOAD, 8 how many bytes that has");
        Desk d = Desk.rated();
        d.bytes(data(128, 13));
        d.data(7).is(12);
        d.data(8).is(1);
        d.bytes(data(128 + 15, 72));
        d.data(7).is(72);
        d.data(8).is(0);
        d.bytes(dataWithX(128 + X, 300, 12, 71));
        d.data(7).is(300);
        d.data(8).is(0);
        d.bytes(dataWithX(128 + X + 15, 300, 72, 55));
        d.data(7).is(296);
        d.data(8).is(4);
        d.bytes(data(128, 300));
        d.data(7).is(12);
        d.data(8).is(288);
    }

    private static void bytesBehindX() {
        Check.promise(8, "9 the two bytes behind X (0 without).");
        Desk d = Desk.rated();
        d.words(0x80000001L, 2, 3, 0xFFFF0000L);
        d.data(9).is(0);
        d.alter(0, 128 + X);
        d.data(9).is(65535);
        d.alter(12, 0);
        d.data(9).is(255);
        d.words(0x91000001L, 2, 3, 0xFFFF0000L, 0x80000000L);
        d.data(9).is(32768);
    }
}
