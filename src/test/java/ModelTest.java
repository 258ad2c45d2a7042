import java.util.Random;

/**
 * Random runs of up to 512 calls, each call given to the class and to the Model; a call that throws
 * ends the test. The seeds are fixed, so that a failure comes again.
 */
public final class ModelTest {
    private static final int RUNS = 3000;
    private static final int CALLS = 512;
    private static final int[] EDGES = {Integer.MIN_VALUE, -2, -1, 0, 1, 2, 3, 7, 8, 9, 16, 17, 31, 32, 63, 64, 127, 128,
        255, 256, 299, 300, 5000, 5001, 10000, 10001, 200000, 200001, 100000000, Integer.MAX_VALUE};

    /** How far a NUMBER may go on, or back, and still be GOOD, or WAIT, and one more. */
    private static final int[] STEPS = {-101, -100, -99, -1, 0, 30, 31, 32, 33, 2998, 2999, 3000};

    private final Random random;
    private final String name;
    private final StreamDesk desk = new StreamDesk();
    private final Model model = new Model();
    private final int[] numbers = new int[8];
    private final int[] stamps = new int[8];
    private int calls = 0;

    private ModelTest(long seed) {
        random = new Random(seed);
        name = "run " + seed;
        for (int s = 0; s < 8; s++) {
            numbers[s] = random.nextBoolean() ? 65500 + random.nextInt(36) : random.nextInt(65536);
            stamps[s] = random.nextInt();
        }
    }

    public static void main(String[] args) {
        for (int seed = 0; seed < RUNS; seed++) {
            new ModelTest(seed).run();
        }
        Check.end();
    }

    private void due(String call, long got, long want) {
        calls++;
        Check.due(name + " call " + calls + " " + call, got, want);
    }

    private void run() {
        int senders = 1 + random.nextInt(8);
        rate(0, 1000);
        rate(1, 1 + random.nextInt(200000));
        while (calls < CALLS - 90) {
            switch (random.nextInt(12)) {
                case 0: pass(random.nextInt(4) == 0 ? random.nextInt(10001) : random.nextInt(60)); break;
                case 1: askSomething(); break;
                case 2: hearSomething(senders); break;
                case 3: spoil(); break;
                case 4: delayOrRate(); break;
                case 5: report(); break;
                default: sendData(random.nextInt(senders)); break;
            }
            due("digest", desk.digest(), model.digest());
        }
        for (int i = 0; i < 65; i++) {
            int what = i % 4;
            due("event(" + i + ", " + what + ")", desk.event(i, what), model.event(i, what));
        }
        for (int what = 0; what < 7; what++) {
            due("heard(" + what + ")", desk.heard(what), model.heard(what));
        }
        Check.holds(name + " keeps to " + CALLS + " calls", calls <= CALLS);
    }

    private void pass(int ms) {
        due("pass(" + ms + ")", desk.pass(ms), model.pass(ms));
    }

    private void rate(int sort, int rate) {
        due("rate(" + sort + ", " + rate + ")", desk.rate(sort, rate), model.rate(sort, rate));
    }

    private void clear() {
        due("clear()", desk.clear(), model.clear());
    }

    private void type(long v, int n) {
        due("type(" + v + ", " + n + ")", desk.type(v, n), model.type(v, n));
    }

    private void take() {
        due("take()", desk.take(), model.take());
    }

    private void hear() {
        due("hear()", desk.hear(), model.hear());
    }

    private void sendData(int s) {
        int kind = random.nextInt(20);
        numbers[s] = numbers[s] + step(kind) & 65535;
        stamps[s] += kind == 19 ? random.nextInt() : random.nextInt(40) - 4;
        clear();
        int sort = random.nextInt(4) == 0 ? 1 : 0;
        type((0x8000L | sort) << 48 | (long) numbers[s] << 32 | stamps[s] & 0xFFFFFFFFL, 8);
        type(s, 4);
        take();
        int waiting = numbers[s] + random.nextInt(3);
        due("time(" + s + ", " + waiting + ")", desk.time(s, waiting), model.time(s, waiting));
    }

    private int step(int kind) {
        switch (kind) {
            case 0: return 0;
            case 1: return -1 - random.nextInt(20);
            case 2: return 2 + random.nextInt(5);
            case 3: return random.nextInt(34);
            case 4: return random.nextInt(5) == 0 ? random.nextInt(3010) : 1;
            case 5: return random.nextInt(5) == 0 ? random.nextInt(65536) : 1;
            case 6: return random.nextInt(5) == 0 ? -95 - random.nextInt(10) : 1;
            case 7: return random.nextInt(5) == 0 ? STEPS[random.nextInt(STEPS.length)] : 1;
            default: return 1;
        }
    }

    private void delayOrRate() {
        if (random.nextInt(3) == 0) {
            rate(edge(), edge());
        } else if (random.nextBoolean()) {
            rate(1, random.nextInt(9000));
        } else {
            int ms = random.nextInt(4) == 0 ? edge() : random.nextInt(150);
            due("delay(" + ms + ")", desk.delay(ms), model.delay(ms));
        }
    }

    private void report() {
        int own = random.nextInt(8);
        due("report(" + own + ")", desk.report(own), model.report(own));
        if (random.nextBoolean()) {
            hear();
        }
        int what = random.nextInt(7);
        due("heard(" + what + ")", desk.heard(what), model.heard(what));
    }

    private void hearSomething(int senders) {
        clear();
        int parts = 1 + random.nextInt(2);
        for (int p = 0; p < parts; p++) {
            typePart(p == 0 ? 200 + random.nextInt(2) : 200 + random.nextInt(4), random.nextInt(senders));
        }
        hear();
    }

    private void typePart(int sort, int sender) {
        int blocks = random.nextInt(2);
        if (sort == 203) {
            int leaving = random.nextInt(6) == 0 ? 1 : 0;
            type(Wire.part(leaving, 203, 2), 4);
            type(sender, 4);
            return;
        }
        int words = (sort == 200 ? 7 : 2) + 6 * blocks;
        type(Wire.part(blocks, sort, words) << 32 | sender, 8);
        for (int left = words - 2; left > 0; left -= 2) {
            boolean blockStarts = blocks == 1 && left == 6;
            long value = blockStarts ? (long) random.nextInt(8) << 32 | random.nextInt() & 0xFFFFFFFFL : random.nextLong();
            type(value, left == 1 ? 4 : 8);
        }
    }

    /** Alters THE PACKET a little, so that most of it stays sound, and reads it again. */
    private void spoil() {
        int place = random.nextInt(3) == 0 ? edge() : random.nextInt(32);
        int value = random.nextInt(5) == 0 ? edge() : random.nextInt(256);
        if (random.nextBoolean()) {
            place = 0;
            value = 128 + (random.nextInt(4) << 4) + random.nextInt(3);
        }
        due("alter(" + place + ", " + value + ")", desk.alter(place, value), model.alter(place, value));
        type(random.nextLong(), random.nextInt(11) - 1);
        for (int what = -1; what <= 10; what++) {
            due("data(" + what + ")", desk.data(what), model.data(what));
        }
        take();
        hear();
    }

    private void askSomething() {
        int a = edge();
        int b = edge();
        due("at(" + a + ")", desk.at(a), model.at(a));
        due("sender(" + a + ", " + b + ")", desk.sender(a, b), model.sender(a, b));
        due("event(" + a + ", " + b + ")", desk.event(a, b), model.event(a, b));
        due("time(" + a + ", " + b + ")", desk.time(a, b), model.time(a, b));
        due("next(" + a + ")", desk.next(a), model.next(a));
        due("count(" + a + ")", desk.count(a), model.count(a));
        due("heard(" + a + ")", desk.heard(a), model.heard(a));
        due("data(" + a + ")", desk.data(a), model.data(a));
        due("type(1, " + b + ")", desk.type(1, b), model.type(1, b));
        if (random.nextInt(4) == 0) {
            pass(a);
        }
    }

    private int edge() {
        return EDGES[random.nextInt(EDGES.length)];
    }
}
