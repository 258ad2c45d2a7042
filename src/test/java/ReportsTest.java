/** Promises 15 to 19: REPORTS made and heard, counts and the digest. */
public final class ReportsTest {
    public static void main(String[] args) {
        reportWithoutBlocks();
        reportOfABlock();
        reportOfThoseBelieved();
        fractionCountsFromTheLastReport();
        fractionIsNoneForMoreThanDue();
        lostBelowNone();
        jitterOfABlock();
        lastAndSince();
        hearFaults();
        hearTakesTheFirstFault();
        hearCountsParts();
        hearLeaving();
        leavingKeepsTheRest();
        faultsOfHearChangeNothing();
        heardBlock();
        heardIsTheLast();
        heardIsOfTheOwn();
        countAndRefusals();
        digestOfADesk();
        Check.end();
    }

    private static void packetIs(String name, StreamDesk d, long... words) {
        Check.due(name + " count(0)", d.count(0), 4L * words.length);
        for (int w = 0; w < words.length; w++) {
            long got = (long) d.at(4 * w) << 24 | d.at(4 * w + 1) << 16 | d.at(4 * w + 2) << 8 | d.at(4 * w + 3);
            Check.due(name + " word " + w, got, words[w] & 0xFFFFFFFFL);
        }
    }

    private static void reportWithoutBlocks() {
        StreamDesk d = Wire.desk();
        d.type(1, 8);
        Check.due("report(-2)", d.report(-2), 8);
        packetIs("no blocks", d, 0x80C90001L, -2);
        Wire.take(d, 1, 1, 0);
        Check.due("one with WAIT", d.report(0), 8);
    }

    private static void reportOfABlock() {
        StreamDesk d = Wire.believed(0xCAFE0001, 65535);
        Wire.take(d, 0xCAFE0001, 3, 0);
        Check.due("report", d.report(7), 32);
        // 5 are due, 2 came: 3 of 5 lost, 256 times 3 by 5 is 153.
        packetIs("a block", d, 0x81C90007L, 7, 0xCAFE0001L, 153L << 24 | 3, 65536 + 3, 0, 0, 0);
    }

    private static void reportOfThoseBelieved() {
        StreamDesk d = Wire.desk();
        Wire.believe(d, 11, 5);
        Wire.take(d, 12, 5, 0);
        Wire.believe(d, 13, 5);
        Wire.believe(d, 14, 5);
        Wire.words(d, Wire.part(0, 201, 2), 1, Wire.part(1, 203, 2), 13);
        d.hear();
        Check.due("11 and 14", d.report(9), 56);
        packetIs("two blocks", d, 0x82C9000DL, 9, 11, 0, 5, 0, 0, 0, 14, 0, 5, 0, 0, 0);
        StreamDesk e = Wire.desk();
        for (int s = 1; s <= 6; s++) {
            Wire.believe(e, s, 5);
        }
        Check.due("six blocks", e.report(9), 152);
        Check.due("their count", e.at(0), 134);
        Check.due("their length", e.at(3), 37);
    }

    private static int fraction(StreamDesk d) {
        d.report(0);
        return d.at(12);
    }

    private static void fractionCountsFromTheLastReport() {
        StreamDesk d = Wire.believed(1, 10);
        Check.due("none lost", fraction(d), 0);
        Check.due("none due since", fraction(d), 0);
        Wire.take(d, 1, 12, 0);
        Check.due("1 of 2", fraction(d), 128);
        Check.due("none due since that", fraction(d), 0);
        Wire.take(d, 1, 15, 0);
        Check.due("2 of 3", fraction(d), 170);
        Check.due("LOST in all", d.at(15), 3);
        Wire.take(d, 1, 2000, 0);
        Check.due("1984 of 1985", fraction(d), 255);
        Wire.take(d, 1, 40000, 0);
        Wire.take(d, 1, 40001, 0);
        Wire.take(d, 1, 40003, 0);
        Check.due("SET anew: 1 of 3", fraction(d), 85);
    }

    private static void fractionIsNoneForMoreThanDue() {
        StreamDesk d = Wire.believed(1, 10);
        fraction(d);
        Wire.take(d, 1, 10, 0);
        Wire.take(d, 1, 10, 0);
        Check.due("none due, two came", fraction(d), 0);
        Wire.take(d, 1, 11, 0);
        Wire.take(d, 1, 11, 0);
        Check.due("one due, two came", fraction(d), 0);
    }

    private static void lostBelowNone() {
        StreamDesk d = Wire.believed(1, 10);
        Wire.take(d, 1, 10, 0);
        Wire.take(d, 1, 10, 0);
        Check.due("sender LOST", d.sender(0, 9), -2);
        d.report(1);
        packetIs("LOST of three bytes", d, 0x81C90007L, 1, 1, 0x00FFFFFEL, 10, 0, 0, 0);
        d.hear();
        Check.due("heard LOST", d.heard(1), -2);
    }

    private static void jitterOfABlock() {
        StreamDesk d = Wire.believed(1, 10);
        Wire.take(d, 1, 11, 47);
        Check.due("JITTER", d.sender(0, 7), 47);
        d.report(1);
        Check.due("47 by 16", d.at(23), 2);
        StreamDesk e = Wire.believed(1, 10);
        Wire.take(e, 1, 11, Integer.MIN_VALUE);
        e.report(1);
        packetIs("rounded down", e, 0x81C90007L, 1, 1, 0, 11, 0xF8000000L, 0, 0);
    }

    private static void hearSending(StreamDesk d, int sender, long clock) {
        Wire.words(d, Wire.part(0, 200, 7), sender, clock >>> 32, clock, 5, 6, 7);
        Check.due("hear a 200", d.hear(), 1);
    }

    private static void lastAndSince() {
        StreamDesk d = Wire.believed(1, 10);
        d.pass(1000);
        hearSending(d, 1, 0x1122334455667788L);
        hearSending(d, 2, 0x99999999999999L);
        Check.due("no SENDER by a REPORT", d.count(1), 1);
        d.report(9);
        packetIs("just now", d, 0x81C90007L, 9, 1, 0, 10, 0, 0x33445566L, 0);
        d.pass(33);
        d.report(9);
        packetIs("33 ms on", d, 0x81C90007L, 9, 1, 0, 10, 0, 0x33445566L, 2162);
        hearSending(d, 1, 0xFFFFEEEEDDDDCCCCL);
        d.pass(1);
        d.report(9);
        packetIs("the latest", d, 0x81C90007L, 9, 1, 0, 10, 0, 0xEEEEDDDDL, 65);
        for (int k = 0; k < 200; k++) {
            d.pass(10000);
        }
        d.report(9);
        packetIs("2000001 ms", d, 0x81C90007L, 9, 1, 0, 10, 0, 0xEEEEDDDDL, 131072065);
        StreamDesk e = Wire.desk();
        Wire.take(e, 1, 9, 0);
        hearSending(e, 1, 0x0000000100020000L);
        Wire.take(e, 1, 10, 0);
        e.report(9);
        packetIs("heard on probation", e, 0x81C90007L, 9, 1, 0, 10, 0, 0x00010002L, 0);
    }

    private static void hear(String name, StreamDesk d, int want, long... words) {
        Wire.words(d, words);
        Check.due(name, d.hear(), want);
    }

    private static void hearFaults() {
        StreamDesk d = Wire.desk();
        hear("11: empty", d, -21);
        hear("11: four bytes", d, -21, Wire.part(0, 201, 1));
        Wire.words(d, Wire.part(0, 201, 2), 1);
        d.type(0, 3);
        Check.due("11: 11 bytes", d.hear(), -21);
        hear("12: 202 first", d, -22, Wire.part(0, 202, 2), 1);
        hear("12: 203 first", d, -22, Wire.part(0, 203, 2), 1);
        hear("12: 199 first", d, -22, Wire.part(0, 199, 2), 1);
        hear("12: filled first", d, -22, Wire.part(32, 201, 2), 1);
        hear("13: V of the first", d, -23, 0x40C90001L, 1);
        hear("13: V of the second", d, -23, Wire.part(0, 201, 2), 1, 0xC0CA0000L);
        hear("14: the first ends behind", d, -24, Wire.part(0, 201, 3), 1);
        hear("14: the second ends behind", d, -24, Wire.part(0, 201, 2), 1, Wire.part(0, 202, 2));
        hear("14: far behind", d, -24, 0x80C9FFFFL, 1);
        hear("15: 200 without all its words", d, -25, Wire.part(0, 200, 6), 1, 2, 3, 4, 5);
        hear("15: 200 with a block missing", d, -25, Wire.part(1, 200, 12), 1, 2, 3, 4, 5, 6, 7, 8, 9, 10, 11);
        hear("15: 201 without SENDER", d, -25, Wire.part(0, 201, 1), Wire.part(0, 201, 1));
        hear("15: 201 with a block missing", d, -25, Wire.part(1, 201, 7), 1, 2, 3, 4, 5, 6);
        hear("15: 203 with a SENDER missing", d, -25, Wire.part(0, 201, 2), 1, Wire.part(2, 203, 2), 1);
        hear("16: 204", d, -26, Wire.part(0, 201, 2), 1, Wire.part(0, 204, 1));
        hear("16: 199", d, -26, Wire.part(0, 201, 2), 1, Wire.part(0, 199, 1));
        hear("16: filled, not the last", d, -26, Wire.part(0, 201, 2), 1, Wire.part(32, 202, 1), Wire.part(0, 202, 1));
        Check.due("none heard", d.count(7), 0);
        Check.due("no faults of DATA", d.count(6), 0);
    }

    private static void hearTakesTheFirstFault() {
        StreamDesk d = Wire.desk();
        hear("12 ahead of 13", d, -22, 0x00CA0001L, 1);
        hear("13 ahead of 14", d, -23, 0x00C90005L, 1);
        hear("14 ahead of 15", d, -24, Wire.part(3, 201, 9), 1);
        hear("15 ahead of 16", d, -25, Wire.part(0, 201, 2), 1, Wire.part(33, 203, 1), Wire.part(0, 202, 1));
        hear("PARTS one behind the other", d, -26, Wire.part(0, 201, 2), 1, Wire.part(0, 204, 1), 0);
        hear("14 ahead of a sort", d, -24, Wire.part(0, 201, 2), 1, Wire.part(0, 204, 2));
    }

    private static void hearCountsParts() {
        StreamDesk d = Wire.desk();
        hear("a 201", d, 1, Wire.part(0, 201, 2), 1);
        hear("a 201 with more than counted", d, 1, Wire.part(0, 201, 3), 1, 2);
        hear("a 200", d, 1, Wire.part(0, 200, 7), 1, 2, 3, 4, 5, 6);
        hear("chunks are not looked into", d, 2, Wire.part(0, 201, 2), 1, Wire.part(31, 202, 1));
        hear("filled, the last", d, 2, Wire.part(0, 201, 2), 1, Wire.part(32, 202, 2), 4);
        hear("201 behind 200", d, 3, Wire.part(0, 200, 7), 1, 2, 3, 4, 5, 6,
                Wire.part(0, 201, 2), 1, Wire.part(0, 203, 1));
        Check.due("all heard", d.count(7), 6);
        d.clear();
        d.type(Wire.part(0, 201, 2), 4);
        d.type(1, 4);
        for (int k = 0; k < 73; k++) {
            d.type(Wire.part(0, 202, 1), 4);
        }
        Check.due("300 bytes", d.count(0), 300);
        Check.due("as many PARTS as there can be", d.hear(), 74);
    }

    private static void hearLeaving() {
        StreamDesk d = Wire.desk();
        Wire.believe(d, 11, 5);
        Wire.take(d, 12, 5, 0);
        Wire.believe(d, 13, 5);
        d.pass(4);
        int before = d.count(3);
        hear("12, 99 and 11 leave", d, 2, Wire.part(0, 201, 2), 1, Wire.part(3, 203, 5), 12, 99, 11, 13);
        Check.due("two EVENTS", d.count(3), before + 2);
        long[] latest = {7, 0, 0, 4};
        long[] ahead = {7, 1, 0, 4};
        for (int what = 0; what < 4; what++) {
            Check.due("event(0, " + what + ")", d.event(0, what), latest[what]);
            Check.due("event(1, " + what + ")", d.event(1, what), ahead[what]);
        }
        Check.due("11 has left", d.sender(0, 16), 1);
        Check.due("12 has left", d.sender(1, 16), 1);
        Check.due("13, not counted, has not", d.sender(2, 16), 0);
        Check.due("what waited is forgotten", d.sender(0, 15), 0);
        Check.due("13 waits", d.sender(2, 15), 1);
        hear("again", d, 2, Wire.part(0, 201, 2), 1, Wire.part(2, 203, 3), 11, 11);
        Check.due("once", d.count(3), before + 2);
        hear("both of one name", d, 2, Wire.part(0, 201, 2), 1, Wire.part(2, 203, 3), 13, 13);
        Check.due("once, too", d.count(3), before + 3);
    }

    private static void leavingKeepsTheRest() {
        StreamDesk d = Wire.believed(11, 5);
        hear("11 leaves", d, 2, Wire.part(0, 201, 2), 1, Wire.part(1, 203, 2), 11);
        Check.due("it does not wait", d.time(0, 5), StreamDesk.NONE);
        Check.due("nothing to play", d.pass(100), 0);
        Check.due("NEXT stays", d.next(0), 5);
        Check.due("GOT stays", d.sender(0, 6), 1);
        Check.due("DUE stays", d.sender(0, 8), 1);
        Check.due("DATA of it goes on", Wire.take(d, 11, 6, 900), 1);
        Check.due("and waits", d.time(0, 6), 1000);
        Check.due("it has left", d.sender(0, 16), 1);
        hear("leaves again", d, 2, Wire.part(0, 201, 2), 1, Wire.part(1, 203, 2), 11);
        Check.due("which is nothing", d.time(0, 6), 1000);
    }

    private static void faultsOfHearChangeNothing() {
        StreamDesk d = Wire.believed(11, 5);
        d.report(0);
        d.clear();
        Wire.words(d, Wire.part(1, 200, 13), 11, 2, 3, 4, 5, 6, 0, 1, 2, 3, 4, 5,
                Wire.part(1, 203, 2), 11, Wire.part(0, 204, 1));
        long before = d.digest();
        Check.due("fault of the last PART", d.hear(), -26);
        Check.due("the digest stays", d.digest(), before);
        Check.due("no BLOCK is kept", d.heard(6), 0);
        d.report(0);
        Check.due("no clock is kept", d.at(24) + d.at(25) + d.at(26) + d.at(27), 0);
    }

    private static void heard(String name, StreamDesk d, long... want) {
        for (int what = 0; what < want.length; what++) {
            Check.due(name + " heard(" + what + ")", d.heard(what), want[what]);
        }
    }

    private static void heardBlock() {
        StreamDesk d = Wire.desk();
        hear("of 0, the own one at first", d, 1, Wire.part(1, 201, 8), 77, 0, 0xFE7FFFFFL, 3, 4, 5, 6);
        heard("201", d, 254, 8388607, 3, 4, 5, 6, 77);
        d.report(-9);
        hear("of the own one", d, 1, Wire.part(2, 200, 19), -1, 2, 3, 4, 5, 6,
                -9, 0x01800000L, -3, -4, -5, -6, 8, 1, 1, 1, 1, 1);
        heard("200", d, 1, -8388608, -3, -4, -5, -6, -1);
        Check.due("heard(7)", d.heard(7), StreamDesk.BAD);
        Check.due("heard(-1)", d.heard(-1), StreamDesk.BAD);
        Check.due("BAD of a new one", new StreamDesk().heard(7), StreamDesk.BAD);
    }

    private static void heardIsTheLast() {
        StreamDesk d = Wire.desk();
        d.report(5);
        hear("two PARTS, three BLOCKS", d, 2, Wire.part(2, 201, 14), 77, 5, 1, 2, 3, 4, 5, 5, 11, 12, 13, 14, 15,
                Wire.part(1, 201, 8), 78, 5, 0x07000015L, 22, 23, 24, 25);
        heard("the last of them", d, 7, 21, 22, 23, 24, 25, 78);
        hear("none of it", d, 1, Wire.part(1, 201, 8), 79, 6, 1, 2, 3, 4, 5);
        heard("still that", d, 7, 21, 22, 23, 24, 25, 78);
        hear("a fault", d, -26, Wire.part(1, 201, 8), 79, 5, 1, 2, 3, 4, 5, Wire.part(0, 204, 1));
        heard("that yet", d, 7, 21, 22, 23, 24, 25, 78);
        hear("not counted", d, 1, Wire.part(0, 201, 8), 79, 5, 1, 2, 3, 4, 5);
        heard("and that", d, 7, 21, 22, 23, 24, 25, 78);
        hear("the second alone", d, 1, Wire.part(2, 201, 14), 80, 6, 1, 2, 3, 4, 5, 5, 0x02000003L, 4, 5, 6, 7);
        heard("the second", d, 2, 3, 4, 5, 6, 7, 80);
    }

    private static void heardIsOfTheOwn() {
        StreamDesk d = Wire.believed(1, 10);
        Wire.take(d, 1, 12, 0);
        d.report(9);
        d.hear();
        heard("none of 9", d, 0, 0, 0, 0, 0, 0, 0);
        d.report(1);
        d.hear();
        heard("of 1", d, 0, 1, 12, 0, 0, 0, 1);
        // A choice that README.md tells of: own is looked at when hear() runs, not when heard() does.
        d.report(9);
        heard("of 1 still", d, 0, 1, 12, 0, 0, 0, 1);
        hear("none of 9 in it", d, 1, Wire.part(1, 201, 8), 77, 1, 2, 3, 4, 5, 6);
        heard("and still", d, 0, 1, 12, 0, 0, 0, 1);
        d.report(1);
        heard("none that came while 9 was the own one", d, 0, 1, 12, 0, 0, 0, 1);
    }

    private static void countAndRefusals() {
        StreamDesk d = Wire.desk();
        d.delay(30);
        d.take();
        d.take();
        Wire.take(d, 1, 4, 0);
        Wire.take(d, 1, 9, 0);
        Wire.take(d, 2, 9, 0);
        Wire.take(d, 1, 10, 0);
        Wire.take(d, 1, 10, 0);
        d.pass(31);
        hear("heard", d, 1, Wire.part(0, 201, 2), 1);
        long[] want = {8, 2, 31, 3, 2, 3, 2, 1, 30};
        for (int what = 0; what < want.length; what++) {
            Check.due("count(" + what + ")", d.count(what), want[what]);
        }
        Check.due("count(9)", d.count(9), StreamDesk.BAD);
        Check.due("count(-1)", d.count(-1), StreamDesk.BAD);
    }

    private static void digestOfADesk() {
        StreamDesk d = Wire.desk();
        Wire.believe(d, -7, 40);
        Wire.take(d, 8, 3, 0);
        Wire.take(d, -7, 39, 5);
        d.pass(60);
        long h = 17;
        long[] numbers = {
            12, 2, 60, 2, 2, 2, 0, 0, 100,
            -7, 40, 0, 40, 65537, 0, 2, 5, 1, -1, 0, 0, 1, 0, 0, 1, 0, 40,
            8, 3, 0, 3, 65537, 1, 0, 0, 0, 0, 0, 0, 0, 0, 0, 0, 0, 0,
            128, 0, 0, 39, 0, 0, 0, 5, 255, 255, 255, 249};
        for (long number : numbers) {
            h = 31 * h + number;
        }
        Check.due("digest", d.digest(), h);
        Check.due("the digest changes nothing", d.digest(), h);
    }
}
