/** Promises 9, 10, 12, 13 and 14: time, PLAYING and EVENTS. */
public final class PlayingTest {
    private static final int PLAYED = 1, LOST = 2, LATE = 3, FAR = 4, TWICE = 5, BEGINS = 6;

    public static void main(String[] args) {
        passMovesNow();
        delayIsKept();
        delayIsThatOfTheBegin();
        nextGoesOn();
        timesOfThoseThatWait();
        timesRoundDown();
        timesWrap();
        lateFarTwice();
        farBeginsAnewWhenNothingWaits();
        forgottenByOneThatBegins();
        leastNumberIsPlayedFirst();
        lostOnesThatWaited();
        playedAtOnce();
        sendersGoByTheirNumbers();
        onlyTheLatestEventsAreKept();
        eventRefuses();
        Check.end();
    }

    /** EVENT i is of that kind, of that SENDER, LONG NUMBER and NOW. */
    private static void event(StreamDesk d, int i, int kind, int sender, long number, int now) {
        Check.due("event(" + i + ", 0)", d.event(i, 0), kind);
        Check.due("event(" + i + ", 1)", d.event(i, 1), sender);
        Check.due("event(" + i + ", 2)", d.event(i, 2), number);
        Check.due("event(" + i + ", 3)", d.event(i, 3), now);
    }

    private static void passMovesNow() {
        StreamDesk d = new StreamDesk();
        Check.due("pass(0)", d.pass(0), 0);
        Check.due("pass(10000)", d.pass(10000), 0);
        Check.due("pass(10001)", d.pass(10001), StreamDesk.BAD);
        Check.due("pass(-1)", d.pass(-1), StreamDesk.BAD);
        Check.due("NOW", d.count(2), 10000);
        StreamDesk e = Wire.believed(1, 1);
        Wire.take(e, 1, 4, 10);
        Check.due("nothing due", e.pass(99), 0);
        Check.due("the first is due", e.pass(1), 1);
        Check.due("two LOST and one PLAYED", e.pass(10), 3);
        Check.due("NOW", e.count(2), 110);
    }

    private static void delayIsKept() {
        StreamDesk d = new StreamDesk();
        Check.due("delay(5000)", d.delay(5000), 100);
        Check.due("delay(5001)", d.delay(5001), StreamDesk.BAD);
        Check.due("delay(-1)", d.delay(-1), StreamDesk.BAD);
        Check.due("delay(0)", d.delay(0), 5000);
        Check.due("delay(1)", d.delay(1), 0);
        Check.due("count(8)", d.count(8), 1);
    }

    private static void delayIsThatOfTheBegin() {
        StreamDesk d = Wire.desk();
        d.pass(30);
        d.delay(200);
        Wire.believe(d, 1, 10);
        d.delay(0);
        Check.due("NOW and DELAY of then", d.time(0, 10), 230);
        Wire.take(d, 1, 11, 5);
        Check.due("the others follow it", d.time(0, 11), 235);
    }

    private static void nextGoesOn() {
        StreamDesk d = Wire.desk();
        Check.due("no SENDER", d.next(0), 0);
        Wire.take(d, 1, 40, 0);
        Check.due("before any BEGINS", d.next(0), 0);
        Wire.take(d, 1, 41, 0);
        Check.due("BEGINS", d.next(0), 41);
        d.pass(100);
        Check.due("PLAYED", d.next(0), 42);
        Check.due("next(-1)", d.next(-1), 0);
        Check.due("next(1)", d.next(1), 0);
        Check.due("next(6)", d.next(6), 0);
    }

    private static void timesOfThoseThatWait() {
        StreamDesk d = Wire.believed(1, 10);
        Wire.take(d, 1, 41, 500);
        Check.due("time of the first", d.time(0, 10), 100);
        Check.due("time of the farthest", d.time(0, 41), 600);
        Check.due("does not wait", d.time(0, 11), StreamDesk.NONE);
        Check.due("in its slot 32 below", d.time(0, 9), StreamDesk.NONE);
        Check.due("in its slot 32 above", d.time(0, 42), StreamDesk.NONE);
        Check.due("64 above", d.time(0, 74), StreamDesk.NONE);
        Check.due("the least long", d.time(0, Long.MIN_VALUE), StreamDesk.NONE);
        Check.due("the most long", d.time(0, Long.MAX_VALUE), StreamDesk.NONE);
        Check.due("no SENDER 1", d.time(1, 10), StreamDesk.BAD);
        Check.due("no SENDER -1", d.time(-1, 10), StreamDesk.BAD);
        d.pass(100);
        Check.due("PLAYED", d.time(0, 10), StreamDesk.NONE);
    }

    private static void timesRoundDown() {
        StreamDesk d = Wire.desk();
        d.rate(3, 3000);
        d.delay(1000);
        Wire.take(d, 1, 9, 0);
        Wire.take(d, 1, 10, 0);
        Wire.takeSort(d, 3, 1, 11, 5);
        Wire.takeSort(d, 3, 1, 12, -1);
        Wire.takeSort(d, 3, 1, 13, -3);
        Check.due("5 of 3000", d.time(0, 11), 1001);
        Check.due("-1 of 3000", d.time(0, 12), 999);
        Check.due("-3 of 3000", d.time(0, 13), 999);
        d.rate(3, 1);
        Check.due("a RATE changed behind it", d.time(0, 11), 1001);
    }

    private static void timesWrap() {
        StreamDesk d = Wire.desk();
        d.rate(3, 1);
        Wire.take(d, 1, 9, -10);
        Wire.take(d, 1, 10, -10);
        Wire.takeSort(d, 3, 1, 11, 10);
        Wire.takeSort(d, 3, 1, 12, 0x7FFFFFF5);
        Check.due("across 0", d.time(0, 11), 20100);
        Check.due("the farthest", d.time(0, 12), 100 + 2147483647L * 1000);
        Wire.takeSort(d, 3, 1, 13, 0x7FFFFFF6);
        Check.due("behind that it is long ago", d.time(0, 13), StreamDesk.NONE);
        event(d, 0, PLAYED, 0, 13, 0);
    }

    private static void lateFarTwice() {
        StreamDesk d = Wire.believed(1, 10);
        event(d, 0, BEGINS, 0, 10, 0);
        d.pass(3);
        Check.due("below NEXT", Wire.take(d, 1, 9, 0), 1);
        event(d, 0, LATE, 0, 9, 3);
        Wire.take(d, 1, 10, 0);
        event(d, 0, TWICE, 0, 10, 3);
        Wire.take(d, 1, 41, 0);
        event(d, 0, TWICE, 0, 10, 3);
        Check.due("31 above waits", d.sender(0, 15), 2);
        Wire.take(d, 1, 42, 0);
        event(d, 0, FAR, 0, 42, 3);
        Check.due("32 above does not", d.sender(0, 15), 2);
        Check.due("EVENTS in all", d.count(3), 4);
        d.pass(97);
        Wire.take(d, 1, 41, 0);
        event(d, 0, LATE, 0, 41, 100);
    }

    private static void farBeginsAnewWhenNothingWaits() {
        StreamDesk d = Wire.believed(1, 10);
        d.pass(100);
        d.delay(50);
        Check.due("31 above NEXT, TIME 5100", Wire.take(d, 1, 42, 5000), 1);
        Check.due("it waits", d.time(0, 42), 5100);
        StreamDesk e = Wire.believed(1, 10);
        e.pass(100);
        e.delay(50);
        Wire.take(e, 1, 43, 5000);
        event(e, 0, BEGINS, 0, 43, 100);
        Check.due("its TIME", e.time(0, 43), 150);
        Check.due("NEXT", e.next(0), 43);
        Check.due("not FAR", e.sender(0, 13), 0);
        Check.due("nothing LOST", e.sender(0, 11), 0);
        Wire.take(e, 1, 44, 5007);
        Check.due("the STAMP begins anew, too", e.time(0, 44), 157);
    }

    private static void forgottenByOneThatBegins() {
        StreamDesk d = Wire.believed(1, 10);
        for (int q = 11; q <= 41; q++) {
            Wire.take(d, 1, q, 0);
        }
        Check.due("32 wait", d.sender(0, 15), 32);
        Wire.take(d, 1, 20000, 0);
        Wire.take(d, 1, 20001, 0);
        Check.due("one waits", d.sender(0, 15), 1);
        for (int n = 20002; n < 20033; n++) {
            Check.due("none waits for " + n, d.time(0, n), StreamDesk.NONE);
        }
        Check.due("one to play", d.pass(1000), 1);
        Check.due("NEXT", d.next(0), 20002);
    }

    private static void leastNumberIsPlayedFirst() {
        StreamDesk d = Wire.believed(1, 10);
        Wire.take(d, 1, 12, 10);
        Wire.take(d, 1, 11, 40);
        Check.due("all PLAYED at once", d.pass(1000), 3);
        event(d, 2, PLAYED, 0, 10, 1000);
        event(d, 1, PLAYED, 0, 11, 1000);
        event(d, 0, PLAYED, 0, 12, 1000);
        Check.due("NEXT", d.next(0), 13);
    }

    private static void lostOnesThatWaited() {
        StreamDesk d = Wire.believed(1, 10);
        Wire.take(d, 1, 11, 900);
        Wire.take(d, 1, 13, 20);
        Wire.take(d, 1, 14, 30);
        Check.due("10, then 11 and 12 LOST, 13", d.pass(120), 4);
        event(d, 3, PLAYED, 0, 10, 120);
        event(d, 2, LOST, 0, 11, 120);
        event(d, 1, LOST, 0, 12, 120);
        event(d, 0, PLAYED, 0, 13, 120);
        Check.due("14 waits", d.sender(0, 15), 1);
        Check.due("11 does not", d.time(0, 11), StreamDesk.NONE);
        Check.due("NEXT", d.next(0), 14);
        Wire.take(d, 1, 43, 900);
        Check.due("11 has left its slot", d.time(0, 43), 1000);
    }

    private static void playedAtOnce() {
        StreamDesk d = Wire.desk();
        d.delay(0);
        Wire.believe(d, 1, 10);
        event(d, 1, BEGINS, 0, 10, 0);
        event(d, 0, PLAYED, 0, 10, 0);
        Wire.take(d, 1, 12, 0);
        event(d, 1, LOST, 0, 11, 0);
        event(d, 0, PLAYED, 0, 12, 0);
        Check.due("pass has nothing left", d.pass(0), 0);
        Wire.take(d, 1, 13, 1);
        Check.due("TIME 1 waits", d.time(0, 13), 1);
        Check.due("pass(1)", d.pass(1), 1);
    }

    private static void sendersGoByTheirNumbers() {
        StreamDesk d = Wire.desk();
        Wire.take(d, 50, 1, 0);
        Wire.believe(d, 40, 200);
        Wire.take(d, 50, 2, 0);
        Wire.take(d, 50, 3, 9);
        Check.due("all three", d.pass(500), 3);
        event(d, 2, PLAYED, 0, 2, 500);
        event(d, 1, PLAYED, 0, 3, 500);
        event(d, 0, PLAYED, 1, 200, 500);
    }

    private static void onlyTheLatestEventsAreKept() {
        StreamDesk d = Wire.believed(1, 10);
        for (int k = 0; k < 63; k++) {
            Wire.take(d, 1, 10, 0);
        }
        event(d, 63, BEGINS, 0, 10, 0);
        Check.due("64 of them", d.event(64, 0), StreamDesk.NONE);
        Wire.take(d, 1, 9, 0);
        event(d, 0, LATE, 0, 9, 0);
        event(d, 63, TWICE, 0, 10, 0);
        Check.due("64 of 65", d.event(64, 0), StreamDesk.NONE);
        Check.due("EVENTS in all", d.count(3), 65);
    }

    private static void eventRefuses() {
        StreamDesk d = Wire.desk();
        Check.due("NONE ahead of BAD", d.event(0, 4), StreamDesk.NONE);
        Wire.believe(d, 1, 10);
        Check.due("event(0, 4)", d.event(0, 4), StreamDesk.BAD);
        Check.due("event(0, -1)", d.event(0, -1), StreamDesk.BAD);
        Check.due("event(1, 0)", d.event(1, 0), StreamDesk.NONE);
        Check.due("event(1, 4)", d.event(1, 4), StreamDesk.NONE);
        Check.due("event(-1, 0)", d.event(-1, 0), StreamDesk.NONE);
        Check.due("event(least, 0)", d.event(Integer.MIN_VALUE, 0), StreamDesk.NONE);
    }
}
