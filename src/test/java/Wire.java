/** Makes desks and packets for the tests. */
final class Wire {
    static final int BAD_SENDER = Integer.MIN_VALUE;

    private Wire() {
    }

    /** A desk that knows RATE 1000 for SORT 0, so that a stamp is a millisecond. */
    static StreamDesk desk() {
        StreamDesk d = new StreamDesk();
        d.rate(0, 1000);
        return d;
    }

    /** THE PACKET is these bytes. */
    static void bytes(StreamDesk d, int... values) {
        d.clear();
        for (int v : values) {
            d.type(v, 1);
        }
    }

    /** THE PACKET is these words of four bytes. */
    static void words(StreamDesk d, long... values) {
        d.clear();
        for (long v : values) {
            d.type(v, 4);
        }
    }

    static int take(StreamDesk d, int sender, int number, int stamp) {
        return takeSort(d, 0, sender, number, stamp);
    }

    static int takeSort(StreamDesk d, int sort, int sender, int number, int stamp) {
        words(d, 0x80000000L | sort << 16 | number, stamp, sender);
        return d.take();
    }

    /** A desk with one SENDER that is believed from the NUMBER on, whose STAMP was 0. */
    static StreamDesk believed(int sender, int number) {
        StreamDesk d = desk();
        believe(d, sender, number);
        return d;
    }

    static void believe(StreamDesk d, int sender, int number) {
        take(d, sender, number - 1 & 65535, 0);
        take(d, sender, number, 0);
    }

    /** The head of a PART that has so many words in all. */
    static long part(int count, int sort, int words) {
        return (128L + count) << 24 | (long) sort << 16 | words - 1;
    }
}
