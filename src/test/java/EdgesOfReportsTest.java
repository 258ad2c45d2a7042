/** The edges of promises 15 to 17: REPORTS with no BLOCK and with the most, FAULTS 11 to 16, who LEAVES, what was heard. */
public final class EdgesOfReportsTest {
    private static final int NONE = Desk.NONE, BAD = Desk.BAD, LEAST = Desk.LEAST, MOST = Desk.MOST;
    private static final long OWN_PART = 0x80C90001L;
    private static final String REPORTED = "THE PACKET is a REPORT of one PART 201 with the own SENDER's bytes, and a BLOCK"
        + " of each SENDER without WAIT that has not left, by their numbers: how many bytes.";
    private static final String FRACTION = "The FRACTION: with e DUE less DUE BEFORE, l e less (GOT less GOT BEFORE): 0, if"
        + " e is 0 or l is not above 0; else 256 l by e (cut; its lowest 8 bits).";
    private static final String LOST = "LOST (3, as a number with a sign, cut to -8388608 .. 8388607)";
    private static final String LAST_AND_SINCE = "LAST is the middle 4 bytes of the clock of the SENDER's latest report,"
        + " SINCE (NOW less NOW then) times 65536 by 1000 (cut); both 0 without one.";
    private static final String TOO_SHORT = "15 it is too short for what it counts (200, 201, 203);";
    private static final String LEAVING = "203: SENDERS that there are, in it as counted, LEAVE (once; what waits is"
        + " forgotten; they stay as they are else).";
    private static final String HEARD = "Of the latest BLOCK that hear() found that tells of the SENDER with 4 bytes own"
        + " (of REPORTS without FAULTS; the last of them):";
    private static final String OWN = "own: as report() was given it last (0 before).";

    public static void main(String[] args) {
        reportWithoutBlocks();
        reportOverAFullPacket();
        ownBytesAtTheirEnds();
        reportOfTheMostBlocks();
        reportLeavesOut();
        aWholeBlock();
        topAndRoundsOfABlock();
        fractionOfNoneDue();
        fractionOfNoneLost();
        fractionIsCut();
        theMostFraction();
        fractionFromReportToReport();
        lostOfABlockAtItsEnds();
        jitterOfABlock();
        lastAndSinceWithoutAReport();
        sinceIsCut();
        lastIsTheMiddleOfTheLatest();
        clockOfOneWithWait();
        clockOfNoSender();
        aRowOfParts();
        theHeadOfAPart();
        fewerThanEightBytes();
        wholeWords();
        theFirstPart();
        versionOfAPart();
        endOfAPart();
        shortOf200();
        shortOf201();
        shortOf203();
        countsOf202();
        sortsOfParts();
        fillings();
        theFirstFaultOfAReport();
        partsOneBehindTheOther();
        faultsChangeNothing();
        theFewestAndTheMostParts();
        theMostBlocksHeard();
        leavesOnceAndTwice();
        leavesTwiceInOnePart();
        leavesAsCounted();
        theHeadOfAPartIsNoSender();
        theMostThatLeave();
        leavesWithWait();
        staysAsItIsElse();
        heardAtItsEnds();
        heardOfNone();
        heardLostAtItsEnds();
        heardNumbersAtTheirEnds();
        heardIsTheLast();
        heardAsCounted();
        heardOfTheOwn();
        Check.end();
    }

    private static void reportWithoutBlocks() {
        Check.promise(15, REPORTED);
        Desk d = new Desk();
        d.report(5).is(8);
        d.packetIs(OWN_PART, 5);
        d.report(6).is(8);
        d.packetIs(OWN_PART, 6);
    }

    private static void reportOverAFullPacket() {
        Check.promise(15, REPORTED);
        Desk d = new Desk();
        d.bytes(new int[300]);
        d.report(5).is(8);
        d.count(0).is(8);
        d.at(8).is(BAD);
        d.type(1, 8).is(16);
    }

    private static void ownBytesAtTheirEnds() {
        Check.promise(15, "with the own SENDER's bytes");
        Desk d = new Desk();
        for (int own : new int[] {0, -1, LEAST, MOST, 0x01020304}) {
            d.report(own).is(8);
            d.wordIs(1, own);
        }
    }

    private static void reportOfTheMostBlocks() {
        Check.promise(15, REPORTED);
        Desk d = Desk.rated();
        for (int s = 0; s < 6; s++) {
            d.believe(60 - s, 100 + s);
        }
        d.report(7).is(152);
        d.wordIs(0, 0x86C90025L);
        d.wordIs(1, 7);
        for (int s = 0; s < 6; s++) {
            d.wordIs(2 + 6 * s, 60 - s);
            d.wordIs(4 + 6 * s, 100 + s);
        }
        d.at(152).is(BAD);
        d.hear().is(1);
    }

    private static void reportLeavesOut() {
        Check.promise(15, "a BLOCK of each SENDER without WAIT that has not left");
        Desk d = Desk.rated();
        d.send(11, 5, 0).is(0);
        d.report(7).is(8);
        d.send(11, 6, 0).is(1);
        d.report(7).is(32);
        d.send(12, 5, 0).is(0);
        d.believe(13, 5);
        d.report(7).is(56);
        d.wordIs(2, 11);
        d.wordIs(8, 13);
        d.leaves(11);
        d.report(7).is(32);
        d.wordIs(0, 0x81C90007L);
        d.wordIs(2, 13);
        d.leaves(13);
        d.report(7).is(8);
        d.wordIs(0, OWN_PART);
    }

    private static void aWholeBlock() {
        Check.promise(15, "A BLOCK of a SENDER (24 bytes): the SENDER (4), the FRACTION (1), LOST (3, as a number with a"
            + " sign, cut to -8388608 .. 8388607), ROUNDS and TOP together (4), JITTER by 16 (rounded down; 4), LAST and"
            + " SINCE (4 each).");
        Desk d = Desk.rated();
        d.believe(8, 10);
        d.believe(0xA1A2A3A4, 65000);
        d.send(0xA1A2A3A4, 0x0203, 0x00123450).is(1);
        hearClock(d, 0xA1A2A3A4, 0xB1B2B3B4B5B6B7B8L);
        d.pass(9000);
        // 1052 are due and 2 came: 256 times 1050 by 1052 is 255.51.
        d.report(0x11121314).is(56);
        d.packetIs(0x82C9000DL, 0x11121314L, 8, 0, 10, 0, 0, 0,
            0xA1A2A3A4L, 0xFF00041AL, 0x00010203L, 0x00012345L, 0xB3B4B5B6L, 589824);
    }

    private static void topAndRoundsOfABlock() {
        Check.promise(15, "ROUNDS and TOP together (4)");
        Desk d = Desk.believed(9, 65535);
        d.report(0).is(32);
        d.wordIs(4, 65535);
        d.send(9, 0, 0).is(1);
        d.report(0).is(32);
        d.wordIs(4, 65536);
    }

    private static void fractionOfNoneDue() {
        Check.promise(15, FRACTION);
        Desk d = Desk.believed(9, 10);
        d.report(0);
        d.at(12).is(0);
        d.report(0);
        d.at(12).is(0);
        // None is due since, and one came.
        d.send(9, 10, 0).is(1);
        d.report(0);
        d.at(12).is(0);
    }

    private static void fractionOfNoneLost() {
        Check.promise(15, FRACTION);
        Desk d = Desk.believed(9, 10);
        d.report(0);
        d.send(9, 12, 0).is(1);
        d.send(9, 11, 0).is(1);
        d.report(0);
        d.at(12).is(0);
        d.send(9, 14, 0).is(1);
        d.send(9, 14, 0).is(1);
        d.send(9, 14, 0).is(1);
        // 2 are due, 3 came: one less than none is lost.
        d.report(0);
        d.at(12).is(0);
    }

    private static void fractionIsCut() {
        Check.promise(15, FRACTION);
        int[][] dueAndFraction = {{2, 128}, {3, 170}, {128, 254}, {129, 254}, {256, 255}, {257, 255}};
        for (int[] pair : dueAndFraction) {
            Desk d = Desk.believed(9, 10);
            d.report(0);
            d.send(9, 10 + pair[0], 0).is(1);
            d.report(0);
            d.at(12).is(pair[1]);
        }
        // One of so many is lost: the others come again and again instead.
        for (int due : new int[] {64, 65}) {
            Desk e = Desk.believed(9, 10);
            e.report(0);
            e.send(9, 10 + due, 0).is(1);
            for (int k = 0; k < due - 2; k++) {
                e.take().is(1);
            }
            e.report(0);
            e.at(12).is(due == 64 ? 4 : 3);
        }
    }

    private static void theMostFraction() {
        Check.promise(15, FRACTION);
        Desk d = Desk.believed(9, 10);
        d.report(0);
        d.send(9, 3009, 0).is(1);
        d.report(0);
        d.at(12).is(255);
    }

    private static void fractionFromReportToReport() {
        Check.promise(15, "Then DUE BEFORE is DUE, GOT BEFORE GOT.");
        Desk d = Desk.believed(9, 65534);
        d.send(9, 1, 0).is(1);
        d.report(0);
        // 2 of 4, then none of none, then 1 of 2.
        d.wordIs(3, 128L << 24 | 2);
        d.report(0);
        d.wordIs(3, 2);
        d.send(9, 3, 0).is(1);
        d.report(0);
        d.wordIs(3, 128L << 24 | 3);
    }

    private static void lostOfABlockAtItsEnds() {
        Check.promise(15, LOST);
        Desk d = Desk.believed(9, 0);
        Inside.setRounds(d, 0, 129 * 65536);
        // 8454145 are due.
        int[] got = {65537, 65538, 65539, 8454144, 8454145, 8454146, 16842752, 16842753, 16842754};
        int[] lost = {0x7FFFFF, 0x7FFFFF, 0x7FFFFE, 1, 0, 0xFFFFFF, 0x800001, 0x800000, 0x800000};
        for (int k = 0; k < got.length; k++) {
            Inside.setGot(d, 0, got[k]);
            d.report(9);
            d.at(13).is(lost[k] >> 16);
            d.at(14).is(lost[k] >> 8 & 255);
            d.at(15).is(lost[k] & 255);
        }
    }

    private static void jitterOfABlock() {
        Check.promise(15, "JITTER by 16 (rounded down; 4)");
        int[] stamps = {15, 16, MOST, LEAST, LEAST + 1};
        long[] wanted = {0, 1, 0x07FFFFFFL, 0xF8000000L, 0x07FFFFFFL};
        for (int k = 0; k < stamps.length; k++) {
            Desk d = Desk.believed(9, 10);
            d.send(9, 11, stamps[k]).is(1);
            d.report(0);
            d.wordIs(5, wanted[k]);
        }
        Desk e = Desk.believed(9, 10);
        e.send(9, 11, MOST).is(1);
        e.send(9, 12, MOST).is(1);
        // JITTER is -2013265921, which by 16 is -125829120.0625.
        e.report(0);
        e.wordIs(5, -125829121L);
    }

    private static void hearClock(Desk d, int sender, long clock) {
        d.hearWords(Wire.part(0, 200, 7), sender, clock >>> 32, clock, 5, 6, 7).is(1);
    }

    private static void lastAndSinceWithoutAReport() {
        Check.promise(15, LAST_AND_SINCE);
        Desk d = Desk.believed(9, 10);
        d.pass(5000);
        d.report(0).is(32);
        d.wordIs(6, 0);
        d.wordIs(7, 0);
        d.at(32).is(BAD);
    }

    private static void sinceIsCut() {
        Check.promise(15, LAST_AND_SINCE);
        Desk d = Desk.believed(9, 10);
        d.pass(300);
        hearClock(d, 9, -1);
        d.report(0);
        d.wordIs(6, -1);
        d.wordIs(7, 0);
        int[][] passAndSince = {{1, 65}, {1, 131}, {998, 65536}, {9000, 655360}, {10000, 1310720}};
        for (int[] pair : passAndSince) {
            d.pass(pair[0]);
            d.report(0);
            d.wordIs(7, pair[1]);
        }
        for (int k = 0; k < 300; k++) {
            d.pass(10000);
        }
        d.report(0);
        d.wordIs(7, 197918720);
    }

    private static void lastIsTheMiddleOfTheLatest() {
        Check.promise(16, "200 of a SENDER that there is: its clock, NOW are kept for LAST, SINCE;");
        Desk d = Desk.believed(9, 10);
        hearClock(d, 9, 0xFFFF000000000000L);
        d.report(0);
        d.wordIs(6, 0);
        hearClock(d, 9, 0x000080000001FFFFL);
        d.pass(1000);
        d.report(0);
        d.wordIs(6, 0x80000001L);
        d.wordIs(7, 65536);
        hearClock(d, 9, 0x1122334455667788L);
        d.report(0);
        d.wordIs(6, 0x33445566L);
        d.wordIs(7, 0);
        // Two of them in one REPORT: the latter is the latest.
        d.hearWords(Wire.part(0, 200, 7), 9, 1, 0, 0, 0, 0, Wire.part(0, 200, 7), 9, 2, 0, 0, 0, 0).is(2);
        d.report(0);
        d.wordIs(6, 0x00020000L);
    }

    private static void clockOfOneWithWait() {
        Check.promise(16, "200 of a SENDER that there is");
        Desk d = Desk.rated();
        d.send(9, 9, 0).is(0);
        hearClock(d, 9, 0x0000000100020000L);
        d.send(9, 10, 0).is(1);
        d.report(0).is(32);
        d.wordIs(6, 0x00010002L);
    }

    private static void clockOfNoSender() {
        Check.promise(16, "200 of a SENDER that there is");
        Desk d = Desk.rated();
        hearClock(d, 9, -1);
        d.count(1).is(0);
        d.believe(9, 10);
        d.report(0).is(32);
        d.wordIs(6, 0);
        // That of another one, and one in a 201, are not its own.
        d.pass(10);
        hearClock(d, 8, -1);
        d.hearWords(Wire.part(0, 201, 7), 9, -1, -1, -1, -1, -1).is(1);
        d.report(0).is(32);
        d.wordIs(6, 0);
        d.wordIs(7, 0);
    }

    private static void aRowOfParts() {
        Check.promise(16, "A REPORT is a row of PARTS, of whole words.");
        Desk d = new Desk();
        d.hearWords(Wire.part(0, 201, 4), 0, 1, 2).is(1);
        d.hearWords(Wire.part(0, 201, 2), 0, Wire.part(0, 202, 2), 2).is(2);
        d.hearWords(Wire.part(0, 201, 2), 0, Wire.part(0, 202, 1), Wire.part(0, 202, 1)).is(3);
        d.hearWords(Wire.part(0, 201, 2), 0, Wire.part(0, 200, 7), 0, 0, 0, 0, 0, 0, Wire.part(0, 201, 2), 0).is(3);
        // The row goes to the end of THE PACKET: a word that is left over is a PART that is none.
        d.hearWords(Wire.part(0, 201, 2), 0, 0).is(-23);
    }

    private static void theHeadOfAPart() {
        Check.promise(16, "PART: a byte 128 and a count (5 bits), its sort, its length in words less 1 (2 bytes). Sorts:");
        for (int count = 0; count < 32; count++) {
            hearBehind(new Desk(), 2, words(count + 1, Wire.part(count, 203, count + 1)));
        }
        for (int count = 1; count < 32; count++) {
            hearBehind(new Desk(), -25, words(count, Wire.part(count, 203, count)));
        }
        Desk d = new Desk();
        // Both bytes of the length are looked at.
        d.hearWords(0x80C90101L, 0).is(-24);
        d.hearWords(0x80C90100L, 0).is(-24);
        d.hearWords(0x80C90001L, 0).is(1);
        d.hearWords(0x80C90000L, 0).is(-25);
    }

    private static void fewerThanEightBytes() {
        Check.promise(16, "11 fewer than 8 bytes, or not whole words;");
        Desk d = new Desk();
        d.hear().is(-21);
        for (int size = 1; size < 8; size++) {
            int[] bytes = java.util.Arrays.copyOf(new int[] {128, 201, 0, 0, 128, 201, 0, 0}, size);
            d.bytes(bytes).hear().is(-21);
        }
        d.hearWords(OWN_PART, 0).is(1);
    }

    private static void wholeWords() {
        Check.promise(16, "11 fewer than 8 bytes, or not whole words;");
        Desk d = new Desk();
        for (int size = 8; size <= 13; size++) {
            d.bytes(java.util.Arrays.copyOf(new int[] {128, 201, 0, size / 4 - 1}, size));
            d.hear().is(size % 4 == 0 ? 1 : -21);
        }
        for (int size = 297; size <= 300; size++) {
            d.bytes(java.util.Arrays.copyOf(new int[] {128, 201, 0, 74}, size));
            d.hear().is(size == 300 ? 1 : -21);
        }
    }

    private static void theFirstPart() {
        Check.promise(16, "12 the first PART is no 200, 201, or has bit 5 (a filling);");
        Desk d = new Desk();
        for (int sort : new int[] {0, 72, 199, 202, 203, 204, 255}) {
            d.hearWords(Wire.part(0, sort, 2), 0).is(-22);
        }
        d.hearWords(Wire.part(32, 201, 2), 4).is(-22);
        d.hearWords(Wire.part(32, 200, 7), 0, 0, 0, 0, 0, 4).is(-22);
        d.hearWords(Wire.part(0, 201, 2), 0).is(1);
        d.hearWords(Wire.part(0, 200, 7), 0, 0, 0, 0, 0, 0).is(1);
    }

    private static void versionOfAPart() {
        Check.promise(16, "13 bits 7 and 6 of one are not 2;");
        Desk d = new Desk();
        for (long version : new long[] {0, 1, 3}) {
            d.hearWords(version << 30 | 0x00C90001L, 0).is(-23);
            d.hearWords(OWN_PART, 0, version << 30 | 0x00CA0000L).is(-23);
        }
        d.hearWords(OWN_PART, 0, 0x80CA0000L).is(2);
    }

    private static void endOfAPart() {
        Check.promise(16, "14 it ends behind the end;");
        Desk d = new Desk();
        d.hearWords(Wire.part(0, 201, 2), 0).is(1);
        d.hearWords(Wire.part(0, 201, 3), 0).is(-24);
        d.hearWords(Wire.part(0, 201, 65536), 0).is(-24);
        d.hearWords(OWN_PART, 0, Wire.part(0, 202, 1)).is(2);
        d.hearWords(OWN_PART, 0, Wire.part(0, 202, 2)).is(-24);
        d.hearWords(OWN_PART, 0, Wire.part(0, 202, 257)).is(-24);
        d.bytes(java.util.Arrays.copyOf(new int[] {128, 201, 0, 75}, 300));
        d.hear().is(-24);
        d.alter(3, 74);
        d.hear().is(1);
    }

    private static long[] words(int many, long first) {
        long[] words = new long[many];
        words[0] = first;
        return words;
    }

    /** A PART of that sort and count is heard with so many words, and has FAULT 15 with one less. */
    private static void shortest(int count, int sort, int many) {
        Desk d = new Desk();
        d.hearWords(words(many, Wire.part(count, sort, many))).is(1);
        d.hearWords(words(many + 1, Wire.part(count, sort, many + 1))).is(1);
        // What comes behind is another PART, so that it is the length that is told which counts.
        d.words(words(many - 1, Wire.part(count, sort, many - 1)));
        d.type(OWN_PART, 4);
        d.type(0, 4);
        d.hear().is(-25);
    }

    private static void shortOf200() {
        Check.promise(16, TOO_SHORT);
        shortest(0, 200, 7);
        shortest(1, 200, 13);
        shortest(11, 200, 73);
        new Desk().hearWords(words(75, Wire.part(12, 200, 75))).is(-25);
    }

    private static void shortOf201() {
        Check.promise(16, TOO_SHORT);
        shortest(0, 201, 2);
        shortest(1, 201, 8);
        shortest(11, 201, 68);
        Desk d = new Desk();
        d.hearWords(words(74, Wire.part(12, 201, 74))).is(1);
        d.hearWords(words(75, Wire.part(12, 201, 75))).is(1);
        d.hearWords(words(73, Wire.part(12, 201, 73))).is(-25);
        d.hearWords(words(75, Wire.part(13, 201, 75))).is(-25);
        d.hearWords(words(75, Wire.part(31, 201, 75))).is(-25);
    }

    private static void hearBehind(Desk d, int answer, long... part) {
        d.words(OWN_PART, 0);
        for (long word : part) {
            d.type(word, 4);
        }
        d.hear().is(answer);
    }

    private static void shortOf203() {
        Check.promise(16, "203: as many SENDERS as counted, perhaps more.");
        Desk d = new Desk();
        hearBehind(d, 2, Wire.part(0, 203, 1));
        hearBehind(d, 2, Wire.part(0, 203, 2), 7);
        hearBehind(d, -25, Wire.part(1, 203, 1));
        hearBehind(d, 2, Wire.part(1, 203, 2), 7);
        hearBehind(d, 2, Wire.part(1, 203, 3), 7, 8);
        hearBehind(d, -25, Wire.part(2, 203, 2), 7);
        hearBehind(d, -25, words(31, Wire.part(31, 203, 31)));
        hearBehind(d, 2, words(32, Wire.part(31, 203, 32)));
    }

    private static void countsOf202() {
        Check.promise(16, "202: chunks, not looked into.");
        Desk d = new Desk();
        hearBehind(d, 2, Wire.part(0, 202, 1));
        hearBehind(d, 2, Wire.part(31, 202, 1));
        hearBehind(d, 2, Wire.part(1, 202, 3), -1, -1);
    }

    private static void sortsOfParts() {
        Check.promise(16, "16 a sort that is none of these");
        Desk d = new Desk();
        for (int sort : new int[] {0, 72, 199, 204, 205, 255}) {
            hearBehind(d, -26, Wire.part(0, sort, 1));
            hearBehind(d, -26, Wire.part(31, sort, 2), 7);
        }
        hearBehind(d, 2, Wire.part(0, 200, 7), 0, 0, 0, 0, 0, 0);
        hearBehind(d, 2, Wire.part(0, 201, 2), 0);
        hearBehind(d, 2, Wire.part(0, 202, 1));
        hearBehind(d, 2, Wire.part(0, 203, 1));
    }

    private static void fillings() {
        Check.promise(16, "or a filling in one that is not the last.");
        Desk d = new Desk();
        hearBehind(d, 2, Wire.part(32, 201, 3), 0, 4);
        hearBehind(d, 2, Wire.part(32, 202, 1));
        hearBehind(d, 3, Wire.part(0, 202, 1), Wire.part(32, 203, 2), 4);
        hearBehind(d, -26, Wire.part(32, 202, 1), Wire.part(0, 202, 1));
        hearBehind(d, -26, Wire.part(32, 202, 1), Wire.part(32, 202, 1));
        hearBehind(d, -26, Wire.part(32, 203, 1), Wire.part(0, 203, 1));
    }

    private static void theFirstFaultOfAReport() {
        Check.promise(16, "FAULTS of it, the first:");
        Desk d = new Desk();
        // Each step mends the first of all the FAULTS that are there at once.
        d.bytes(0x62, 204, 0, 3, 0, 0, 0, 0, 0x61, 204, 0);
        d.hear().is(-21);
        d.type(1, 1);
        d.hear().is(-22);
        d.alter(1, 201);
        d.hear().is(-22);
        d.alter(0, 0x42);
        d.hear().is(-23);
        d.alter(0, 0x82);
        d.hear().is(-24);
        d.alter(3, 1);
        d.hear().is(-25);
        d.alter(0, 0x80);
        d.hear().is(-23);
        d.alter(8, 0xA1);
        d.hear().is(-24);
        d.alter(11, 0);
        d.hear().is(-26);
        d.alter(9, 203);
        d.hear().is(-25);
        d.alter(8, 0xA0);
        d.hear().is(2);
        d.type(Wire.part(0, 202, 1), 4);
        d.hear().is(-26);
        d.alter(8, 0x80);
        d.hear().is(3);
        d.count(7).is(2);
    }

    private static void partsOneBehindTheOther() {
        Check.promise(16, "then of PARTS, one behind the other:");
        Desk d = new Desk();
        long[] parts = {0x00CA0000L, Wire.part(0, 202, 9), Wire.part(1, 203, 1), Wire.part(0, 204, 1)};
        for (int k = 0; k < parts.length; k++) {
            for (long behind : parts) {
                hearBehind(d, -23 - k, parts[k], behind);
            }
            hearBehind(d, -23 - k, Wire.part(0, 202, 1), parts[k]);
        }
    }

    private static void faultsChangeNothing() {
        Check.promise(16, "-10 less the FAULT, nothing is changed then.");
        long[] lastParts = {0x00CA0000L, Wire.part(0, 202, 2), Wire.part(1, 203, 1), Wire.part(0, 204, 1)};
        for (int k = 0; k < lastParts.length; k++) {
            Desk d = Desk.believed(9, 10);
            d.pass(30);
            d.words(Wire.part(1, 200, 13), 9, -1, -1, -1, -1, -1, 0, -1, -1, -1, -1, -1,
                    Wire.part(1, 203, 2), 9, lastParts[k]);
            String before = d.seen();
            d.hear().is(-23 - k);
            d.stays(before);
            d.count(7).is(0);
            d.count(6).is(0);
            d.time(0, 10).is(100);
            d.report(0).is(32);
            d.wordIs(6, 0);
        }
    }

    private static void theFewestAndTheMostParts() {
        Check.promise(16, "THE PACKET, as a REPORT: how many PARTS;");
        Desk d = new Desk();
        d.hearWords(OWN_PART, 0).is(1);
        long[] words = words(75, OWN_PART);
        for (int w = 2; w < 75; w++) {
            words[w] = Wire.part(0, 202, 1);
        }
        d.hearWords(words).is(74);
        d.count(0).is(300);
        d.count(7).is(2);
    }

    private static void theMostBlocksHeard() {
        Check.promise(17, "201: the SENDER, then BLOCKS.");
        Desk d = new Desk();
        d.report(77);
        long[] words = words(74, Wire.part(12, 201, 74));
        words[1] = 5;
        words[68] = 77;
        words[69] = 0x09FFFFFFL;
        words[73] = 6;
        d.hearWords(words).is(1);
        d.heardIs(9, -1, 0, 0, 0, 6, 5);
        Check.promise(17, "200: the SENDER, a clock (8), a STAMP (4), PACKETS (4), BYTES (4), then BLOCKS as counted.");
        words = words(73, Wire.part(11, 200, 73));
        words[1] = 4;
        words[67] = 77;
        words[68] = 0x08000001L;
        words[72] = 7;
        d.hearWords(words).is(1);
        d.heardIs(8, 1, 0, 0, 0, 7, 4);
    }

    private static void leavesOnceAndTwice() {
        Check.promise(16, LEAVING);
        Desk d = Desk.believed(9, 10);
        d.sender(0, 16).is(0);
        d.leaves(9);
        d.sender(0, 16).is(1);
        d.sender(0, 15).is(0);
        d.count(3).is(2);
        d.send(9, 11, 0).is(1);
        d.sender(0, 15).is(1);
        d.leaves(9);
        d.count(3).is(2);
        d.sender(0, 16).is(1);
        d.sender(0, 15).is(1);
        d.count(7).is(2);
    }

    private static void leavesTwiceInOnePart() {
        Check.promise(16, LEAVING);
        Desk d = Desk.believed(9, 10);
        hearBehind(d, 2, Wire.part(2, 203, 3), 9, 9);
        d.count(3).is(2);
        d.eventIs(0, 7, 0, 0, 0);
        d.eventIs(1, 6, 0, 10, 0);
    }

    private static void leavesAsCounted() {
        Check.promise(16, "SENDERS that there are, in it as counted, LEAVE");
        Desk d = Desk.rated();
        d.believe(8, 10);
        d.believe(9, 10);
        hearBehind(d, 2, Wire.part(0, 203, 2), 8);
        d.sender(0, 16).is(0);
        hearBehind(d, 2, Wire.part(1, 203, 3), 9, 8);
        d.sender(0, 16).is(0);
        d.sender(1, 16).is(1);
        hearBehind(d, 2, Wire.part(2, 203, 3), 7, 8);
        d.sender(0, 16).is(1);
        d.count(1).is(2);
        d.count(3).is(4);
    }

    private static void theHeadOfAPartIsNoSender() {
        Check.promise(16, "SENDERS that there are, in it as counted, LEAVE");
        long head = Wire.part(1, 203, 2);
        Desk d = Desk.believed((int) head, 10);
        hearBehind(d, 2, head, 7);
        d.sender(0, 16).is(0);
        hearBehind(d, 2, head, head);
        d.sender(0, 16).is(1);
    }

    private static void theMostThatLeave() {
        Check.promise(16, "SENDERS that there are, in it as counted, LEAVE");
        Desk d = Desk.rated();
        for (int s = 0; s < 6; s++) {
            d.believe(60 + s, 10);
        }
        long[] words = words(33, Wire.part(31, 203, 33));
        for (int s = 0; s < 5; s++) {
            words[27 + s] = 65 - s;
        }
        words[32] = 60;
        hearBehind(d, 2, words);
        d.sender(0, 16).is(0);
        for (int s = 1; s < 6; s++) {
            d.sender(s, 16).is(1);
        }
        d.eventIs(0, 7, 1, 0, 0);
        d.eventIs(4, 7, 5, 0, 0);
        d.pass(100).is(1);
    }

    private static void leavesWithWait() {
        Check.promise(16, LEAVING);
        Desk d = Desk.rated();
        d.send(9, 10, 0).is(0);
        d.leaves(9);
        d.senderIs(0, 1, 10, 0, 10, 65537, 1, 0);
        d.sender(0, 16).is(1);
        d.eventIs(0, 7, 0, 0, 0);
        d.send(9, 11, 0).is(1);
        d.sender(0, 16).is(1);
        d.report(0).is(8);
    }

    private static void staysAsItIsElse() {
        Check.promise(16, "what waits is forgotten; they stay as they are else");
        Desk d = Desk.believed(9, 10);
        d.send(9, 12, 40).is(1);
        d.send(9, 9, 40).is(1);
        d.leaves(9);
        d.senderIs(0, 0, 9, 12, 0, 10, 65537, 0, 3, 37, 3, 0, 0, 0, 1, 0, 0, 0, 1);
        d.next(0).is(10);
        d.time(0, 10).is(NONE);
        d.time(0, 12).is(NONE);
        d.pass(5000).is(0);
        d.next(0).is(10);
    }

    private static void heardAtItsEnds() {
        Check.promise(17, "0 the FRACTION, 1 LOST (with its sign), 2 the number of 4 bytes behind it, 3 JITTER, 4 LAST,"
            + " 5 SINCE, 6 who told it (4 bytes).");
        Desk d = new Desk();
        d.heard(-1).is(BAD);
        d.heard(0).is(0);
        d.heard(6).is(0);
        d.heard(7).is(BAD);
        d.heard(LEAST).is(BAD);
        d.heard(MOST).is(BAD);
        d.hearWords(Wire.part(1, 201, 8), 77, 0, 0x01000002L, 3, 4, 5, 6).is(1);
        d.heardIs(1, 2, 3, 4, 5, 6, 77);
        d.heard(-1).is(BAD);
        d.heard(7).is(BAD);
    }

    private static void heardOfNone() {
        Check.promise(17, "0: none. BAD.");
        Desk d = new Desk();
        d.hearWords(OWN_PART, 0).is(1);
        d.heardIs(0, 0, 0, 0, 0, 0, 0);
        d.hearWords(Wire.part(1, 201, 8), 77, 1, 2, 3, 4, 5, 6).is(1);
        d.heardIs(0, 0, 0, 0, 0, 0, 0);
        d.hearWords(Wire.part(1, 201, 8), 77, 0, 2, 3, 4, 5, 6, Wire.part(0, 204, 1)).is(-26);
        d.heardIs(0, 0, 0, 0, 0, 0, 0);
    }

    private static void heardLostAtItsEnds() {
        Check.promise(17, "1 LOST (with its sign)");
        Desk d = new Desk();
        long[] words = {0, 0x007FFFFFL, 0x00800000L, 0xFF7FFFFFL, 0xFF800000L, 0xFFFFFFFFL, 0xFF000000L, 1};
        int[] lost = {0, 8388607, -8388608, 8388607, -8388608, -1, 0, 1};
        for (int k = 0; k < words.length; k++) {
            d.hearWords(Wire.part(1, 201, 8), 77, 0, words[k], 3, 4, 5, 6).is(1);
            d.heard(1).is(lost[k]);
            d.heard(0).is(words[k] >> 24);
        }
    }

    private static void heardNumbersAtTheirEnds() {
        Check.promise(17, "2 the number of 4 bytes behind it, 3 JITTER, 4 LAST, 5 SINCE, 6 who told it (4 bytes).");
        Desk d = new Desk();
        for (int v : new int[] {-1, LEAST, MOST}) {
            d.hearWords(Wire.part(1, 201, 8), v, 0, 0, v, v, v, v).is(1);
            d.heardIs(0, 0, v, v, v, v, v);
        }
    }

    private static void heardIsTheLast() {
        Check.promise(17, HEARD);
        Desk d = new Desk();
        d.hearWords(Wire.part(2, 201, 14), 77, 0, 1, 1, 1, 1, 1, 0, 2, 2, 2, 2, 2).is(1);
        d.heardIs(0, 2, 2, 2, 2, 2, 77);
        d.hearWords(Wire.part(1, 201, 8), 77, 0, 3, 3, 3, 3, 3, Wire.part(1, 201, 8), 78, 0, 4, 4, 4, 4, 4).is(2);
        d.heardIs(0, 4, 4, 4, 4, 4, 78);
        d.hearWords(Wire.part(2, 201, 14), 79, 0, 5, 5, 5, 5, 5, 1, 6, 6, 6, 6, 6).is(1);
        d.heardIs(0, 5, 5, 5, 5, 5, 79);
        d.hearWords(Wire.part(1, 201, 8), 80, 1, 7, 7, 7, 7, 7).is(1);
        d.heardIs(0, 5, 5, 5, 5, 5, 79);
        d.hearWords(Wire.part(1, 201, 8), 80, 0, 8, 8, 8, 8, 8, Wire.part(0, 202, 2)).is(-24);
        d.heardIs(0, 5, 5, 5, 5, 5, 79);
    }

    private static void heardAsCounted() {
        Check.promise(17, HEARD);
        Desk d = new Desk();
        d.hearWords(Wire.part(0, 201, 8), 77, 0, 1, 1, 1, 1, 1).is(1);
        d.heardIs(0, 0, 0, 0, 0, 0, 0);
        d.hearWords(Wire.part(1, 201, 14), 77, 0, 1, 1, 1, 1, 1, 0, 2, 2, 2, 2, 2).is(1);
        d.heardIs(0, 1, 1, 1, 1, 1, 77);
        // BLOCKS stand in 200 and 201 alone.
        hearBehind(d, 2, Wire.part(1, 202, 8), 78, 0, 3, 3, 3, 3, 3);
        hearBehind(d, 2, Wire.part(1, 203, 8), 78, 0, 3, 3, 3, 3, 3);
        d.heardIs(0, 1, 1, 1, 1, 1, 77);
    }

    private static void heardOfTheOwn() {
        Check.promise(17, OWN);
        for (int own : new int[] {-1, LEAST, MOST, 0}) {
            Desk d = new Desk();
            d.report(3);
            d.report(own);
            d.hearWords(Wire.part(2, 201, 14), 77, own, 1, 1, 1, 1, 1, 3, 2, 2, 2, 2, 2).is(1);
            d.heardIs(0, 1, 1, 1, 1, 1, 77);
        }
        Desk e = Desk.believed(9, 10);
        e.report(9).is(32);
        e.hear().is(1);
        e.heardIs(0, 0, 10, 0, 0, 0, 9);
    }
}
