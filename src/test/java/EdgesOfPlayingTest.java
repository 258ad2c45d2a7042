/** The edges of promises 9, 10 and 12 to 14: NOW, DELAY, what WAITS, TIMES, and EVENTS that are kept and gone. */
public final class EdgesOfPlayingTest {
    private static final int NONE = Desk.NONE, BAD = Desk.BAD, FULL = Desk.FULL, LEAST = Desk.LEAST, MOST = Desk.MOST;
    private static final int PLAYED = 1, LOST = 2, LATE = 3, FAR = 4, TWICE = 5, BEGINS = 6, LEAVES = 7;
    private static final int PLAYED_COUNT = 10, LOST_COUNT = 11, WAITING = 15;
    private static final String DUE = "as long as one that WAITS has a TIME that is not above NOW:";
    private static final String ALSO_LOST = "NEXT up to n - 1 are LOST (those that WAIT among them, whose TIMES are above"
        + " NOW, too), n is PLAYED, NEXT is n + 1.";
    private static final String FAR_OR_BEGINS = "32 or more above NEXT it is FAR, but if nothing WAITS it BEGINS anew;";
    private static final String TIME = "The TIME of each other one is that TIME and (STAMP less that STAMP, as an int"
        + " that wraps) times 1000 by the RATE of its own SORT, rounded down.";
    private static final String BEGIN = "what waits is forgotten, NEXT is its LONG NUMBER, its TIME is NOW and the DELAY"
        + " (0 to 5000 milliseconds, as it is then).";
    private static final String KEPT = "EVENTS, the latest 64 kept:";

    public static void main(String[] args) {
        passAtItsEnds();
        passRefuses();
        passToTheEndOfNow();
        passBeyondTheEndOfNow();
        passRefusedPlaysNothing();
        passCountsPlayedAndLost();
        passOfSeveralSenders();
        playingOfEachSender();
        delayAtItsEnds();
        delayRefuses();
        beginsWithNoDelay();
        beginsWithTheMostDelay();
        delayOfThen();
        beginsAtNow();
        nextOfNoSender();
        nextBeforeAnyBegins();
        nextOfEachSender();
        nextGoesOnByOne();
        nextAcrossTheRound();
        timeOfNoSender();
        timeInsideAndOutsideOfWhatWaits();
        timeIsNotAboveNow();
        playedAtOnceBehindOneThatWaits();
        timeRoundsDown();
        timeOfTheLeastRate();
        timeWraps();
        timeHasTheRateOfItsOwnSort();
        late();
        lateBehindPlayed();
        far();
        farWhenNothingWaits();
        farthestWhenNothingWaits();
        notFarWhenNothingWaits();
        twice();
        thirtyTwoWait();
        lostOnesAtTheirMost();
        lostOnesThatWaited();
        theLeastLongNumberFirst();
        setAnewForgets();
        setAnewForgetsTheMostThatWait();
        setAnewBeginsBelow();
        forgottenByLeaving();
        leavingForgetsTheMostThatWait();
        noEvents();
        whatAnEventIsAsked();
        sixtyFourEvents();
        sixtyFiveEvents();
        manyMoreEvents();
        everyKindOfEvent();
        eventsTellTheSender();
        Check.end();
    }

    private static void passAtItsEnds() {
        Check.promise(9, "NOW is so much more (0 to 10000)");
        Desk d = new Desk();
        d.pass(0).is(0);
        d.count(2).is(0);
        d.pass(1).is(0);
        d.count(2).is(1);
        d.pass(10000).is(0);
        d.count(2).is(10001);
    }

    private static void passRefuses() {
        Check.promise(9, "NOW is so much more (0 to 10000): what is PLAYED and LOST by that. BAD;");
        Desk d = new Desk();
        d.pass(10000).is(0);
        d.pass(-1).is(BAD);
        d.pass(10001).is(BAD);
        d.pass(LEAST).is(BAD);
        d.pass(MOST).is(BAD);
        d.count(2).is(10000);
    }

    private static void passToTheEndOfNow() {
        Check.promise(9, "FULL: NOW would be above 100000000.");
        Desk d = Desk.rated();
        Inside.setNow(d, 99990000);
        d.pass(10000).is(0);
        d.count(2).is(100000000);
        d.pass(0).is(0);
        d.pass(1).is(FULL);
        d.pass(10000).is(FULL);
        d.pass(10001).is(BAD);
        d.pass(-1).is(BAD);
        d.count(2).is(100000000);
        d.believe(9, 10);
        d.time(0, 10).is(100000100);
        d.eventIs(0, BEGINS, 0, 10, 100000000);
    }

    private static void passBeyondTheEndOfNow() {
        Check.promise(9, "FULL: NOW would be above 100000000.");
        Desk d = new Desk();
        Inside.setNow(d, 99990001);
        d.pass(10000).is(FULL);
        d.count(2).is(99990001);
        d.pass(9999).is(0);
        d.count(2).is(100000000);
    }

    private static void passRefusedPlaysNothing() {
        Check.promise(9, "They change nothing.");
        Desk d = Desk.rated();
        Inside.setNow(d, 99999950);
        d.believe(9, 10);
        String before = d.seen();
        d.pass(100).is(FULL);
        d.pass(10001).is(BAD);
        d.stays(before);
        d.time(0, 10).is(100000050);
    }

    private static void passCountsPlayedAndLost() {
        Check.promise(9, "what is PLAYED and LOST by that.");
        Desk d = Desk.believed(9, 10);
        d.pass(99).is(0);
        d.pass(1).is(1);
        d.pass(10000).is(0);
        d.send(9, 42, 20000).is(1);
        // 11 to 41 are LOST, 42 is PLAYED.
        d.pass(10000).is(32);
        d.senderIs(0, PLAYED_COUNT, 2, 31);
    }

    private static void passOfSeveralSenders() {
        Check.promise(9, "SENDERS go by their numbers.");
        Desk d = Desk.rated();
        for (int s = 0; s < 6; s++) {
            d.send(60 - s, 1, 0).is(0);
        }
        for (int s = 5; s >= 0; s--) {
            d.send(60 - s, 2, 0).is(1);
        }
        d.send(55, 3, 0).is(1);
        d.pass(100).is(7);
        d.eventIs(6, PLAYED, 0, 2, 100);
        d.eventIs(2, PLAYED, 4, 2, 100);
        d.eventIs(1, PLAYED, 5, 2, 100);
        d.eventIs(0, PLAYED, 5, 3, 100);
    }

    private static void playingOfEachSender() {
        Check.promise(9, "PLAYING, of each SENDER:");
        Desk d = Desk.rated();
        d.believe(61, 10);
        d.pass(30);
        d.delay(20);
        d.believe(62, 10);
        // What the one has waiting, its NEXT and its TIMES are not the other's.
        d.send(61, 12, 0).is(1);
        d.send(62, 11, 5).is(1);
        d.time(0, 12).is(100);
        d.time(0, 11).is(NONE);
        d.time(1, 11).is(55);
        d.time(1, 12).is(NONE);
        d.pass(20).is(1);
        d.next(0).is(10);
        d.next(1).is(11);
        d.send(62, 43, 0).is(1);
        d.eventIs(0, FAR, 1, 43, 50);
        d.pass(5).is(1);
        d.send(62, 44, 0).is(1);
        d.eventIs(0, BEGINS, 1, 44, 55);
        d.sender(0, WAITING).is(2);
        d.sender(1, WAITING).is(1);
        // 10, 11 (LOST) and 12 of the one, 44 of the other.
        d.pass(45).is(4);
        d.senderIs(0, PLAYED_COUNT, 2, 1, 0, 0, 0, 0);
        d.senderIs(1, PLAYED_COUNT, 3, 0, 0, 1, 0, 0);
    }

    private static void delayAtItsEnds() {
        Check.promise(10, "DELAY: what it was.");
        Desk d = new Desk();
        d.delay(0).is(100);
        d.delay(5000).is(0);
        d.delay(4999).is(5000);
        d.delay(1).is(4999);
        d.count(8).is(1);
    }

    private static void delayRefuses() {
        Check.promise(10, "DELAY: what it was. BAD.");
        Desk d = new Desk();
        d.delay(-1).is(BAD);
        d.delay(5001).is(BAD);
        d.delay(LEAST).is(BAD);
        d.delay(MOST).is(BAD);
        d.count(8).is(100);
    }

    private static void beginsWithNoDelay() {
        Check.promise(10, BEGIN);
        Desk d = Desk.rated();
        d.delay(0);
        d.believe(9, 10);
        d.eventIs(1, BEGINS, 0, 10, 0);
        d.eventIs(0, PLAYED, 0, 10, 0);
        d.sender(0, WAITING).is(0);
        d.next(0).is(11);
        d.pass(0).is(0);
    }

    private static void beginsWithTheMostDelay() {
        Check.promise(10, BEGIN);
        Desk d = Desk.rated();
        d.delay(5000);
        d.believe(9, 10);
        d.time(0, 10).is(5000);
        d.pass(4999).is(0);
        d.pass(1).is(1);
    }

    private static void delayOfThen() {
        Check.promise(10, "(0 to 5000 milliseconds, as it is then)");
        Desk d = Desk.rated();
        d.send(9, 9, 0);
        d.delay(300);
        d.send(9, 10, 0).is(1);
        d.delay(0);
        d.time(0, 10).is(300);
        d.send(9, 11, 0).is(1);
        d.time(0, 11).is(300);
        d.pass(299).is(0);
        d.pass(1).is(2);
    }

    private static void beginsAtNow() {
        Check.promise(13, BEGIN);
        Desk d = Desk.rated();
        d.send(9, 9, 500);
        d.pass(40);
        d.send(9, 10, 500).is(1);
        d.time(0, 10).is(140);
        d.send(9, 11, 501).is(1);
        d.time(0, 11).is(141);
        d.eventIs(0, BEGINS, 0, 10, 40);
    }

    private static void nextOfNoSender() {
        Check.promise(12, "0: BAD, before any BEGINS.");
        Desk d = Desk.believed(9, 10);
        d.next(0).is(10);
        d.next(-1).is(0);
        d.next(1).is(0);
        d.next(5).is(0);
        d.next(6).is(0);
        d.next(LEAST).is(0);
        d.next(MOST).is(0);
    }

    private static void nextBeforeAnyBegins() {
        Check.promise(12, "0: BAD, before any BEGINS.");
        Desk d = Desk.rated();
        for (int s = 0; s < 6; s++) {
            d.send(s, 40, 0).is(0);
        }
        d.next(5).is(0);
        d.send(5, 41, 0).is(1);
        d.next(5).is(41);
        d.next(4).is(0);
        d.next(6).is(0);
    }

    private static void nextOfEachSender() {
        Check.promise(12, "NEXT of a SENDER;");
        Desk d = Desk.rated();
        for (int s = 0; s < 6; s++) {
            d.believe(60 + s, 100 * s);
        }
        for (int s = 0; s < 6; s++) {
            d.next(s).is(100 * s);
        }
        d.pass(100).is(6);
        for (int s = 0; s < 6; s++) {
            d.next(s).is(100 * s + 1);
        }
    }

    private static void nextGoesOnByOne() {
        Check.promise(12, ALSO_LOST);
        Desk d = Desk.believed(9, 0);
        d.next(0).is(0);
        d.pass(100).is(1);
        d.next(0).is(1);
        d.send(9, 2, 0).is(1);
        d.next(0).is(3);
        d.send(9, 1, 0).is(1);
        d.next(0).is(3);
    }

    private static void nextAcrossTheRound() {
        Check.promise(12, "NEXT is its LONG NUMBER");
        Desk d = Desk.believed(9, 65535);
        d.next(0).is(65535);
        d.pass(100).is(1);
        d.next(0).is(65536);
        d.send(9, 0, 0).is(1);
        d.next(0).is(65537);
        // 65568 is 31 above NEXT; it is due at once, so that 65537 to 65567 are LOST.
        d.send(9, 32, 0).is(1);
        d.next(0).is(65569);
        d.sender(0, LOST_COUNT).is(31);
        d.send(9, 65, 0).is(1);
        d.eventIs(0, BEGINS, 0, 65601, 100);
        d.next(0).is(65601);
    }

    private static void timeOfNoSender() {
        Check.promise(13, "NONE: it does not. BAD.");
        Desk d = Desk.believed(9, 10);
        d.time(-1, 10).is(BAD);
        d.time(1, 10).is(BAD);
        d.time(6, 10).is(BAD);
        d.time(LEAST, 10).is(BAD);
        d.time(MOST, 10).is(BAD);
        d.time(1, Long.MIN_VALUE).is(BAD);
        new Desk().time(0, 0).is(BAD);
    }

    private static void timeInsideAndOutsideOfWhatWaits() {
        Check.promise(13, "The TIME of the LONG NUMBER n of a SENDER that WAITS. NONE: it does not.");
        Desk d = Desk.rated();
        d.send(9, 9, 0).is(0);
        d.time(0, 9).is(NONE);
        d.time(0, 0).is(NONE);
        d.send(9, 10, 0).is(1);
        d.send(9, 41, 7).is(1);
        long[] none = {9, 11, 40, 42, 73, 74, -22, 0, 10 + 65536, 10 - 65536, Long.MIN_VALUE, Long.MAX_VALUE,
            Long.MIN_VALUE + 10, 10 + (1L << 32)};
        for (long n : none) {
            d.time(0, n).is(NONE);
        }
        d.time(0, 10).is(100);
        d.time(0, 41).is(107);
        d.pass(100).is(1);
        d.time(0, 10).is(NONE);
        d.time(0, 42).is(NONE);
        d.time(0, 41).is(107);
    }

    private static void timeIsNotAboveNow() {
        Check.promise(9, DUE);
        Desk d = Desk.believed(9, 10);
        d.pass(100).is(1);
        d.send(9, 11, 0).is(1);
        d.eventIs(0, PLAYED, 0, 11, 100);
        d.send(9, 12, 1).is(1);
        d.time(0, 12).is(101);
        d.pass(0).is(0);
        d.pass(1).is(1);
        d.eventIs(0, PLAYED, 0, 12, 101);
    }

    private static void playedAtOnceBehindOneThatWaits() {
        Check.promise(7, "As NOW goes on, and behind each that WAITS:");
        Desk d = Desk.believed(9, 10);
        d.send(9, 12, 5).is(1);
        d.send(9, 11, -100).is(1);
        // TIME 0 is not above NOW: 10, whose TIME is, is LOST; 12 waits on.
        d.eventIs(1, LOST, 0, 10, 0);
        d.eventIs(0, PLAYED, 0, 11, 0);
        d.sender(0, WAITING).is(1);
        d.next(0).is(12);
        d.pass(104).is(0);
        d.pass(1).is(1);
    }

    private static void timeRoundsDown() {
        Check.promise(13, TIME);
        Desk d = Desk.rated();
        d.rate(7, 200000);
        d.believe(9, 10);
        int[][] stampAndTime = {{199, 100}, {200, 101}, {1, 100}, {-1, 99}, {-200, 99}, {-201, 98}};
        for (int k = 0; k < stampAndTime.length; k++) {
            d.sendSort(7, 9, 11 + k, stampAndTime[k][0]).is(1);
            d.time(0, 11 + k).is(stampAndTime[k][1]);
        }
    }

    private static void timeOfTheLeastRate() {
        Check.promise(13, TIME);
        Desk d = Desk.rated();
        d.rate(7, 1);
        d.rate(8, 200000);
        d.believe(9, 10);
        d.sendSort(7, 9, 11, 1).is(1);
        d.time(0, 11).is(1100);
        d.sendSort(7, 9, 12, MOST).is(1);
        d.time(0, 12).is(100 + 2147483647000L);
        d.sendSort(8, 9, 13, MOST).is(1);
        d.time(0, 13).is(100 + 10737418);
        d.sendSort(7, 9, 14, -1).is(1);
        // 900 below 0 is not above NOW: 10 to 13 are LOST, as their TIMES are above it.
        d.time(0, 14).is(NONE);
        d.senderIs(0, PLAYED_COUNT, 1, 4);
    }

    private static void timeWraps() {
        Check.promise(13, "(STAMP less that STAMP, as an int that wraps)");
        Desk d = Desk.rated();
        d.send(9, 9, MOST);
        d.send(9, 10, MOST).is(1);
        d.send(9, 11, LEAST).is(1);
        d.time(0, 11).is(101);
        d.send(9, 12, MOST - 1).is(1);
        d.time(0, 12).is(99);
        d.send(9, 13, -2).is(1);
        d.time(0, 13).is(100 + 2147483647L);
        // One further it is the least int: long ago.
        d.send(9, 14, -1).is(1);
        d.eventIs(0, PLAYED, 0, 14, 0);
    }

    private static void timeHasTheRateOfItsOwnSort() {
        Check.promise(13, "by the RATE of its own SORT");
        Desk d = Desk.rated();
        d.rate(7, 500);
        d.believe(9, 10);
        d.sendSort(7, 9, 11, 10).is(1);
        d.time(0, 11).is(120);
        d.send(9, 12, 10).is(1);
        d.time(0, 12).is(110);
        d.rate(0, 10).is(1000);
        d.time(0, 12).is(110);
        d.send(9, 13, 10).is(1);
        d.time(0, 13).is(1100);
    }

    private static void late() {
        Check.promise(14, "One with a LONG NUMBER below NEXT is LATE;");
        Desk d = Desk.believed(9, 1000);
        d.send(9, 999, 0).is(1);
        d.eventIs(0, LATE, 0, 999, 0);
        d.send(9, 901, 0).is(1);
        d.eventIs(0, LATE, 0, 901, 0);
        d.send(9, 900, 0).is(0);
        d.count(3).is(3);
        d.sender(0, 12).is(2);
        d.sender(0, WAITING).is(1);
    }

    private static void lateBehindPlayed() {
        Check.promise(14, "One with a LONG NUMBER below NEXT is LATE;");
        Desk d = Desk.believed(9, 10);
        d.send(9, 10, 0).is(1);
        d.eventIs(0, TWICE, 0, 10, 0);
        d.pass(100).is(1);
        d.send(9, 10, 0).is(1);
        d.eventIs(0, LATE, 0, 10, 100);
        d.send(9, 11, 0).is(1);
        d.eventIs(0, PLAYED, 0, 11, 100);
    }

    private static void far() {
        Check.promise(14, FAR_OR_BEGINS);
        Desk d = Desk.believed(9, 10);
        d.send(9, 42, 0).is(1);
        d.eventIs(0, FAR, 0, 42, 0);
        d.sender(0, WAITING).is(1);
        d.send(9, 41, 0).is(1);
        d.sender(0, WAITING).is(2);
        d.count(3).is(2);
        d.send(9, 3041, 0).is(1);
        d.eventIs(0, FAR, 0, 3041, 0);
        d.sender(0, 13).is(2);
        d.next(0).is(10);
    }

    private static void farWhenNothingWaits() {
        Check.promise(14, FAR_OR_BEGINS);
        Desk d = Desk.believed(9, 10);
        d.pass(100).is(1);
        d.send(9, 43, 9000).is(1);
        d.eventIs(0, BEGINS, 0, 43, 100);
        d.next(0).is(43);
        d.time(0, 43).is(200);
        d.senderIs(0, PLAYED_COUNT, 1, 0, 0, 0, 0, 1);
        // It is not SET: the numbers go on as they were.
        d.senderIs(0, 1, 43, 0, 10);
        d.send(9, 44, 9001).is(1);
        d.time(0, 44).is(201);
    }

    private static void farthestWhenNothingWaits() {
        Check.promise(14, FAR_OR_BEGINS);
        for (int above : new int[] {33, 64, 2998}) {
            Desk d = Desk.believed(9, 10);
            d.pass(100).is(1);
            d.send(9, 11 + above, 0).is(1);
            d.eventIs(0, BEGINS, 0, 11 + above, 100);
            d.next(0).is(11 + above);
            d.sender(0, 13).is(0);
        }
    }

    private static void notFarWhenNothingWaits() {
        Check.promise(14, FAR_OR_BEGINS);
        Desk d = Desk.believed(9, 10);
        d.pass(100).is(1);
        d.send(9, 42, 9000).is(1);
        d.count(3).is(2);
        d.next(0).is(11);
        d.time(0, 42).is(9100);
        d.send(9, 43, 9000).is(1);
        d.eventIs(0, FAR, 0, 43, 100);
    }

    private static void twice() {
        Check.promise(14, "one that waits already is TWICE; else it WAITS (so does one that BEGINS).");
        Desk d = Desk.believed(9, 10);
        d.send(9, 10, 500).is(1);
        d.eventIs(0, TWICE, 0, 10, 0);
        d.time(0, 10).is(100);
        d.send(9, 41, 0).is(1);
        d.count(3).is(2);
        d.send(9, 41, 500).is(1);
        d.eventIs(0, TWICE, 0, 41, 0);
        d.time(0, 41).is(100);
        d.sender(0, 14).is(2);
        d.sender(0, WAITING).is(2);
    }

    private static void thirtyTwoWait() {
        Check.promise(11, "15 how many WAIT");
        Desk d = Desk.believed(9, 10);
        for (int q = 41; q > 10; q--) {
            d.send(9, q, 0).is(1);
        }
        d.sender(0, WAITING).is(32);
        d.send(9, 42, 0).is(1);
        d.event(0, 0).is(FAR);
        d.sender(0, WAITING).is(32);
        d.pass(99).is(0);
        d.pass(1).is(32);
        d.senderIs(0, PLAYED_COUNT, 32, 0, 0, 1, 0, 0);
        d.next(0).is(42);
        d.eventIs(31, PLAYED, 0, 10, 100);
        d.eventIs(0, PLAYED, 0, 41, 100);
    }

    private static void lostOnesAtTheirMost() {
        Check.promise(9, ALSO_LOST);
        Desk d = Desk.believed(9, 10);
        d.send(9, 41, -1).is(1);
        d.pass(98).is(0);
        // 41 is due ahead of 10, which is LOST though it WAITS.
        d.pass(1).is(32);
        d.senderIs(0, PLAYED_COUNT, 1, 31);
        d.sender(0, WAITING).is(0);
        d.eventIs(31, LOST, 0, 10, 99);
        d.eventIs(1, LOST, 0, 40, 99);
        d.eventIs(0, PLAYED, 0, 41, 99);
        d.next(0).is(42);
    }

    private static void lostOnesThatWaited() {
        Check.promise(9, ALSO_LOST);
        Desk d = Desk.believed(9, 10);
        d.send(9, 11, 1).is(1);
        d.send(9, 12, 0).is(1);
        d.pass(100).is(3);
        d.eventIs(2, PLAYED, 0, 10, 100);
        d.eventIs(1, LOST, 0, 11, 100);
        d.eventIs(0, PLAYED, 0, 12, 100);
        d.time(0, 11).is(NONE);
        d.sender(0, WAITING).is(0);
        d.send(9, 11, 1).is(1);
        d.event(0, 0).is(LATE);
    }

    private static void theLeastLongNumberFirst() {
        Check.promise(9, "of these the one with the least LONG NUMBER, n:");
        Desk d = Desk.believed(9, 65535);
        d.send(9, 1, 0).is(1);
        d.send(9, 0, 50).is(1);
        d.pass(150).is(3);
        d.eventIs(2, PLAYED, 0, 65535, 150);
        d.eventIs(1, PLAYED, 0, 65536, 150);
        d.eventIs(0, PLAYED, 0, 65537, 150);
    }

    private static void setAnewForgets() {
        Check.promise(14, "the first GOOD one (and one by which it is SET anew, from that on) BEGINS:");
        Desk d = Desk.believed(9, 10);
        d.send(9, 12, 0).is(1);
        d.send(9, 20000, 0).is(0);
        d.sender(0, WAITING).is(2);
        d.pass(30);
        d.send(9, 20001, 700).is(1);
        d.eventIs(0, BEGINS, 0, 20001, 30);
        d.count(3).is(2);
        d.sender(0, WAITING).is(1);
        d.time(0, 10).is(NONE);
        d.time(0, 20001).is(130);
        d.next(0).is(20001);
        d.pass(99).is(0);
        d.pass(1).is(1);
        d.senderIs(0, PLAYED_COUNT, 1, 0);
    }

    /** A desk with the most that can WAIT: 10 to 41. */
    private static Desk withTheMostThatWait() {
        Desk d = Desk.believed(9, 10);
        for (int q = 11; q < 42; q++) {
            d.send(9, q, 0).is(1);
        }
        d.sender(0, WAITING).is(32);
        return d;
    }

    private static void setAnewForgetsTheMostThatWait() {
        Check.promise(13, BEGIN);
        Desk d = withTheMostThatWait();
        d.send(9, 20000, 0).is(0);
        d.send(9, 20001, 0).is(1);
        d.sender(0, WAITING).is(1);
        for (int n = 20002; n < 20034; n++) {
            d.time(0, n).is(NONE);
        }
        d.pass(5000).is(1);
        d.senderIs(0, PLAYED_COUNT, 1, 0, 0, 0, 0, 0);
        d.next(0).is(20002);
    }

    private static void setAnewBeginsBelow() {
        Check.promise(12, "BEGINS: what waits is forgotten, NEXT is its LONG NUMBER");
        Desk d = Desk.believed(9, 65535);
        d.send(9, 0, 0).is(1);
        d.pass(100).is(2);
        d.next(0).is(65537);
        d.send(9, 65000, 0).is(0);
        d.send(9, 65001, 0).is(1);
        d.eventIs(0, BEGINS, 0, 65001, 100);
        d.next(0).is(65001);
        d.sender(0, 12).is(0);
    }

    private static void forgottenByLeaving() {
        Check.promise(14, "the LONG NUMBER (of 7: 0), NOW.");
        Desk d = Desk.believed(9, 10);
        d.pass(60);
        d.leaves(9);
        d.eventIs(0, LEAVES, 0, 0, 60);
        d.sender(0, WAITING).is(0);
        d.time(0, 10).is(NONE);
        d.pass(1000).is(0);
        d.next(0).is(10);
        d.count(3).is(2);
    }

    private static void leavingForgetsTheMostThatWait() {
        Check.promise(16, "LEAVE (once; what waits is forgotten; they stay as they are else)");
        Desk d = withTheMostThatWait();
        d.leaves(9);
        d.sender(0, WAITING).is(0);
        for (int n = 10; n < 42; n++) {
            d.time(0, n).is(NONE);
        }
        d.pass(5000).is(0);
        d.next(0).is(10);
        d.senderIs(0, PLAYED_COUNT, 0, 0, 0, 0, 0, 0);
    }

    private static void noEvents() {
        Check.promise(14, "NONE: there is none (ahead). BAD.");
        Desk d = new Desk();
        for (int what : new int[] {LEAST, -1, 0, 3, 4, MOST}) {
            d.event(0, what).is(NONE);
            d.event(-1, what).is(NONE);
            d.event(63, what).is(NONE);
            d.event(64, what).is(NONE);
            d.event(LEAST, what).is(NONE);
            d.event(MOST, what).is(NONE);
        }
    }

    private static void whatAnEventIsAsked() {
        Check.promise(14, "Of EVENT i of those kept, 0 the latest: 0 kind, 1 SENDER, 2 LONG NUMBER, 3 NOW.");
        Desk d = Desk.believed(9, 10);
        d.eventIs(0, BEGINS, 0, 10, 0);
        d.event(0, -1).is(BAD);
        d.event(0, 4).is(BAD);
        d.event(0, LEAST).is(BAD);
        d.event(0, MOST).is(BAD);
        d.event(1, 0).is(NONE);
        d.event(1, 4).is(NONE);
        d.event(-1, 4).is(NONE);
    }

    /** One that BEGAN at 10, and so many that were TWICE behind it. */
    private static Desk withTwice(int many) {
        Desk d = Desk.believed(9, 10);
        for (int k = 0; k < many; k++) {
            d.take().is(1);
        }
        d.count(3).is(many + 1);
        return d;
    }

    private static void sixtyFourEvents() {
        Check.promise(14, KEPT);
        Desk d = withTwice(62);
        d.eventIs(62, BEGINS, 0, 10, 0);
        d.event(63, 0).is(NONE);
        Desk e = withTwice(63);
        e.eventIs(0, TWICE, 0, 10, 0);
        e.eventIs(62, TWICE, 0, 10, 0);
        e.eventIs(63, BEGINS, 0, 10, 0);
        e.event(64, 0).is(NONE);
    }

    private static void sixtyFiveEvents() {
        Check.promise(14, KEPT);
        Desk d = withTwice(63);
        d.pass(1);
        d.send(9, 9, 0).is(1);
        d.eventIs(0, LATE, 0, 9, 1);
        d.eventIs(1, TWICE, 0, 10, 0);
        d.eventIs(63, TWICE, 0, 10, 0);
        d.event(64, 0).is(NONE);
        d.event(64, 9).is(NONE);
        d.event(63, 4).is(BAD);
        d.count(3).is(65);
    }

    private static void manyMoreEvents() {
        Check.promise(14, KEPT);
        Desk d = withTwice(300);
        d.pass(100).is(1);
        d.eventIs(0, PLAYED, 0, 10, 100);
        d.eventIs(1, TWICE, 0, 10, 0);
        d.eventIs(63, TWICE, 0, 10, 0);
        d.event(64, 0).is(NONE);
        d.count(3).is(302);
    }

    private static void everyKindOfEvent() {
        Check.promise(14, "a kind (1 PLAYED, 2 LOST, 3 LATE, 4 FAR, 5 TWICE, 6 BEGINS, 7 a SENDER LEAVES)");
        Desk d = Desk.rated();
        d.send(8, 5, 0);
        d.believe(9, 10);
        d.send(9, 42, 0).is(1);
        d.send(9, 10, 0).is(1);
        d.send(9, 9, 0).is(1);
        d.send(9, 12, 0).is(1);
        d.pass(100).is(3);
        d.leaves(9);
        int[] kinds = {LEAVES, PLAYED, LOST, PLAYED, LATE, TWICE, FAR, BEGINS};
        int[] numbers = {0, 12, 11, 10, 9, 10, 42, 10};
        for (int i = 0; i < kinds.length; i++) {
            d.eventIs(i, kinds[i], 1, numbers[i], i < 4 ? 100 : 0);
        }
        d.event(8, 0).is(NONE);
        d.senderIs(1, PLAYED_COUNT, 2, 1, 1, 1, 1, 0, 1);
    }

    private static void eventsTellTheSender() {
        Check.promise(14, "6 BEGINS, 7 a SENDER LEAVES), the SENDER, the LONG NUMBER");
        Desk d = Desk.rated();
        for (int s = 0; s < 6; s++) {
            d.believe(60 - s, 10 + s);
        }
        for (int s = 0; s < 6; s++) {
            d.eventIs(5 - s, BEGINS, s, 10 + s, 0);
        }
        d.send(55, 14, 0).is(1);
        d.eventIs(0, LATE, 5, 14, 0);
        d.leaves(58);
        d.eventIs(0, LEAVES, 2, 0, 0);
    }
}
