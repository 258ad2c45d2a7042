/** Promises 1 to 6. */
public final class PacketTest {
    public static void main(String[] args) {
        aNewObject();
        typePutsBytesBehind();
        typeRefuses();
        clearEmpties();
        alterChangesOneByte();
        atReadsOneByte();
        rateIsKeptForEachSort();
        Check.end();
    }

    private static void aNewObject() {
        StreamDesk d = new StreamDesk();
        for (int what = 0; what < 8; what++) {
            Check.due("new count(" + what + ")", d.count(what), 0);
        }
        Check.due("new DELAY", d.count(8), 100);
        Check.due("new at(0)", d.at(0), StreamDesk.BAD);
        Check.due("new sender(0, 0)", d.sender(0, 0), Wire.BAD_SENDER);
        Check.due("new event(0, 0)", d.event(0, 0), StreamDesk.NONE);
        for (int sort = 0; sort < 128; sort++) {
            Check.due("new RATE of " + sort, d.rate(sort, 0), 0);
        }
        for (int what = 0; what < 7; what++) {
            Check.due("new heard(" + what + ")", d.heard(what), 0);
        }
        Check.due("new digest", d.digest(), digestOfNew());
        Check.due("NONE", StreamDesk.NONE, -1);
        Check.due("BAD", StreamDesk.BAD, -2);
        Check.due("FULL", StreamDesk.FULL, -3);
    }

    private static long digestOfNew() {
        long h = 17;
        for (int what = 0; what < 8; what++) {
            h = 31 * h;
        }
        return 31 * h + 100;
    }

    private static void typePutsBytesBehind() {
        StreamDesk d = new StreamDesk();
        Check.due("type 0 bytes", d.type(-1L, 0), 0);
        Check.due("type 1 byte", d.type(0x1FFL, 1), 1);
        Check.due("type 3 bytes", d.type(0x99010203L, 3), 4);
        Check.due("type 8 bytes", d.type(0x8182838485868788L, 8), 12);
        int[] want = {255, 1, 2, 3, 0x81, 0x82, 0x83, 0x84, 0x85, 0x86, 0x87, 0x88};
        for (int i = 0; i < want.length; i++) {
            Check.due("at(" + i + ")", d.at(i), want[i]);
        }
    }

    private static void typeRefuses() {
        StreamDesk d = new StreamDesk();
        Check.due("type -1 bytes", d.type(1, -1), StreamDesk.BAD);
        Check.due("type 9 bytes", d.type(1, 9), StreamDesk.BAD);
        Check.due("nothing typed", d.count(0), 0);
        for (int k = 0; k < 37; k++) {
            d.type(k, 8);
        }
        Check.due("297 bytes", d.type(1, 1), 297);
        Check.due("type past 300", d.type(1, 4), StreamDesk.FULL);
        Check.due("nothing added", d.count(0), 297);
        Check.due("type up to 300", d.type(0xABCDEF, 3), 300);
        Check.due("the last byte", d.at(299), 0xEF);
        Check.due("type 1 byte past 300", d.type(1, 1), StreamDesk.FULL);
        Check.due("type 0 bytes at 300", d.type(1, 0), 300);
        Check.due("BAD ahead of FULL", d.type(1, 9), StreamDesk.BAD);
        Check.due("at(300)", d.at(300), StreamDesk.BAD);
    }

    private static void clearEmpties() {
        StreamDesk d = new StreamDesk();
        Check.due("clear of none", d.clear(), 0);
        d.type(0x0102, 2);
        Check.due("clear of 2", d.clear(), 2);
        Check.due("at(0) when empty", d.at(0), StreamDesk.BAD);
        Check.due("count(0) when empty", d.count(0), 0);
        Check.due("type from the start", d.type(9, 1), 1);
        Check.due("at(0)", d.at(0), 9);
    }

    private static void alterChangesOneByte() {
        StreamDesk d = new StreamDesk();
        d.type(0x010203, 3);
        Check.due("alter(1, 255)", d.alter(1, 255), 2);
        Check.due("alter(1, 0)", d.alter(1, 0), 255);
        Check.due("alter(2, 7)", d.alter(2, 7), 3);
        Check.due("alter(3, 7)", d.alter(3, 7), StreamDesk.BAD);
        Check.due("alter(-1, 7)", d.alter(-1, 7), StreamDesk.BAD);
        Check.due("alter(0, 256)", d.alter(0, 256), StreamDesk.BAD);
        Check.due("alter(0, -1)", d.alter(0, -1), StreamDesk.BAD);
        Check.due("at(0)", d.at(0), 1);
        Check.due("at(1)", d.at(1), 0);
        Check.due("at(2)", d.at(2), 7);
        Check.due("as many bytes", d.count(0), 3);
    }

    private static void atReadsOneByte() {
        StreamDesk d = new StreamDesk();
        d.type(0xFE01, 2);
        Check.due("at(0)", d.at(0), 254);
        Check.due("at(1)", d.at(1), 1);
        Check.due("at(2)", d.at(2), StreamDesk.BAD);
        Check.due("at(-1)", d.at(-1), StreamDesk.BAD);
        Check.due("at(least)", d.at(Integer.MIN_VALUE), StreamDesk.BAD);
        Check.due("at(most)", d.at(Integer.MAX_VALUE), StreamDesk.BAD);
    }

    private static void rateIsKeptForEachSort() {
        StreamDesk d = new StreamDesk();
        Check.due("rate(0, 200000)", d.rate(0, 200000), 0);
        Check.due("rate(127, 8000)", d.rate(127, 8000), 0);
        Check.due("rate(0, 200001)", d.rate(0, 200001), StreamDesk.BAD);
        Check.due("rate(0, -1)", d.rate(0, -1), StreamDesk.BAD);
        Check.due("rate(-1, 1)", d.rate(-1, 1), StreamDesk.BAD);
        Check.due("rate(128, 1)", d.rate(128, 1), StreamDesk.BAD);
        Check.due("rate(0, 0)", d.rate(0, 0), 200000);
        Check.due("rate(0, 1)", d.rate(0, 1), 0);
        Check.due("rate(127, 1)", d.rate(127, 1), 8000);
    }
}
