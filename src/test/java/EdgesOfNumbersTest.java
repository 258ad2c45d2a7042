/** The edges of promises 7 and 11: SENDERS, probation, numbers that go round, the LONG NUMBER, JITTER. */
public final class EdgesOfNumbersTest {
    private static final int LEAST = Desk.LEAST, MOST = Desk.MOST;
    private static final int TOP = 1, ROUNDS = 2, BASE = 3, ODD = 4, WAIT = 5, GOT = 6, JITTER = 7, DUE = 8, LOST = 9;
    private static final String LONG_NUMBER = "The LONG NUMBER of a GOOD one is ROUNDS and q, if q is not above TOP,"
        + " else that less 65536 (it may be below 0).";
    private static final String ODD_OR_SET = "if q is ODD, it is SET by q; else ODD is q + 1 modulo 65536: NOT YET.";
    private static final String AHEAD = "u below 3000: if q is below TOP, ROUNDS is 65536 more; TOP is q.";
    private static final String BEHIND = "Else u not above 65436:";
    private static final String JITTER_GROWS = "JITTER is d more, less JITTER ahead of that and 8 together by 16"
        + " (rounded down) (all as ints that wrap); it is kept.";

    public static void main(String[] args) {
        sendersFromNoneToTheLastPlace();
        numberedAsTheyCameWithoutFaults();
        sendersWithBytesAtTheEnds();
        eachSenderHasItsOwn();
        allThatASenderTells();
        theFirstNumberAtItsEnds();
        theFirstNumberIsLookedAtToo();
        theSecondOneIsBelieved();
        probationGoesRound();
        probationStartsAgain();
        setByTheOneThatIsBelieved();
        noProbationTwice();
        aheadByTheFewestAndTheMost();
        aheadAcrossTheRound();
        twiceTheTopIsNoRound();
        roundsAddUp();
        behindByTheMost();
        behindAcrossTheRound();
        noNumberIsOddAtFirst();
        oddGoesRound();
        oddIsTheLatest();
        oddOutlivesGoodOnes();
        oddThatIsAheadIsNoSet();
        setAnewClearsTheRest();
        longNumberOnBothSidesOfTheRound();
        longNumberBelowNone();
        dueAndLostWhileItHasWait();
        dueAcrossTheRound();
        lostBelowNone();
        lostAtItsEnds();
        senderIsAskedAtItsEnds();
        theFirstTransitIsKeptAlone();
        transitIsCut();
        transitOfTheMostRate();
        transitWraps();
        jitterIsRoundedDown();
        jitterOfTheLeast();
        jitterThatIsBelowNone();
        jitterOfGoodOnesAlone();
        jitterGoesOnBehindSet();
        Check.end();
    }

    private static void sendersFromNoneToTheLastPlace() {
        Check.promise(11, "SENDERS, up to 6, numbered as they came first");
        Desk d = Desk.rated();
        d.sender(0, 0).is(LEAST);
        for (int s = 0; s < 6; s++) {
            d.sender(s, 0).is(LEAST);
            d.send(60 - s, 1, 0).is(0);
            d.sender(s, 0).is(60 - s);
        }
        d.sender(0, 0).is(60);
        d.sender(5, 0).is(55);
        d.sender(5, 16).is(0);
        d.sender(6, 0).is(LEAST);
        d.sender(-1, 0).is(LEAST);
        d.sender(LEAST, 0).is(LEAST);
        d.sender(MOST, 0).is(LEAST);
    }

    private static void numberedAsTheyCameWithoutFaults() {
        Check.promise(11, "numbered as they came first (by DATA without FAULTS 1 to 6)");
        Desk d = Desk.rated();
        d.sendSort(9, 70, 1, 0).is(-16);
        d.words(0x40000001L, 0, 70).take().is(-12);
        d.send(71, 1, 0).is(0);
        d.send(70, 1, 0).is(0);
        d.send(71, 5, 0).is(0);
        d.count(1).is(2);
        d.sender(0, 0).is(71);
        d.sender(1, 0).is(70);
    }

    private static void sendersWithBytesAtTheEnds() {
        Check.promise(11, "Of SENDER s: 0 its 4 bytes");
        Desk d = Desk.rated();
        d.send(0, 1, 0).is(0);
        d.send(-1, 1, 0).is(0);
        d.send(MOST, 1, 0).is(0);
        d.send(LEAST, 1, 0).is(0);
        d.sender(0, 0).is(0);
        d.sender(1, 0).is(-1);
        d.sender(2, 0).is(MOST);
        d.sender(3, 0).is(LEAST);
        d.sender(3, 5).is(1);
        d.send(LEAST, 2, 0).is(1);
        d.count(1).is(4);
    }

    private static void eachSenderHasItsOwn() {
        Check.promise(11, "Each has TOP, ROUNDS (0 or a multiple of 65536), BASE, ODD, WAIT, GOT, GOT BEFORE, DUE BEFORE,"
            + " SET");
        Desk d = Desk.rated();
        d.believe(61, 10);
        d.send(62, 65535, 0).is(0);
        d.believe(63, 65535);
        d.send(61, 12, 5).is(1);
        d.send(63, 3, 0).is(1);
        d.send(61, 20000, 0).is(0);
        d.senderIs(0, 0, 61, 12, 0, 10, 20001, 0, 2, 5, 3, 1);
        d.senderIs(1, 0, 62, 65535, 0, 65535, 65537, 1, 0, 0, 0, 0);
        d.senderIs(2, 0, 63, 3, 65536, 65535, 65537, 0, 2, 0, 5, 3);
        d.report(0).is(56);
        d.send(62, 0, 0).is(1);
        d.report(0).is(80);
        // That of 62 is of its first BLOCK, the others are of none since.
        d.wordIs(3, 1);
        d.wordIs(9, 0);
        d.wordIs(15, 3);
        d.send(62, 2, 0).is(1);
        d.send(63, 4, 0).is(1);
        d.report(0).is(80);
        d.wordIs(3, 1);
        d.wordIs(9, 128L << 24 | 1);
        d.wordIs(15, 3);
    }

    private static void allThatASenderTells() {
        Check.promise(11, "Of SENDER s: 0 its 4 bytes, 1 TOP, 2 ROUNDS, 3 BASE, 4 ODD, 5 WAIT, 6 GOT, 7 JITTER, 8 DUE,"
            + " 9 LOST (as in BLOCKS; 8 and 9 are 0 while it has WAIT), 10 PLAYED, 11 LOST by playing, 12 LATE, 13 FAR,"
            + " 14 TWICE, 15 how many WAIT, 16 whether it has left (1, 0).");
        Desk d = Desk.believed(77, 65530);
        for (int k = 0; k < 2; k++) {
            d.send(77, 65530, 0).is(1);
        }
        d.pass(100).is(1);
        // 65531 to 65534 are LOST, then 65536 to 65540.
        for (int q : new int[] {65535, 5, 6, 7}) {
            d.send(77, q, 0).is(1);
        }
        for (int k = 0; k < 3; k++) {
            d.send(77, 3, 0).is(1);
        }
        d.senderIs(0, 0, 77, 7, 65536, 65530, 65537, 0, 10, 67, 14, 4, 5, 9, 3, 0, 2, 0, 0);
        d.leaves(77);
        for (int q = 8; q <= 13; q++) {
            d.send(77, q, 1000).is(1);
        }
        for (int k = 0; k < 4; k++) {
            d.send(77, 40, 1000).is(1);
        }
        d.send(77, 20000, 0).is(0);
        d.senderIs(0, 0, 77, 40, 65536, 65530, 20001, 0, 20, 596, 47, 27, 5, 9, 3, 4, 2, 6, 1);
    }

    private static void theFirstNumberAtItsEnds() {
        Check.promise(7, "One that comes is SET by its NUMBER, then TOP is q - 1 (modulo 65536), WAIT 2.");
        for (int q : new int[] {0, 1, 65535}) {
            Desk d = Desk.rated();
            d.send(9, q, 0).is(0);
            d.senderIs(0, TOP, q, 0, q, 65537, 1, 0);
        }
    }

    private static void theFirstNumberIsLookedAtToo() {
        Check.promise(7, "Then, for it, too, and for each NUMBER q that comes, with u being q - TOP modulo 65536:");
        Desk d = Desk.rated();
        // TOP is one less than it at first, so that it is itself the first of the two that follow.
        d.send(9, 700, 0).is(0);
        d.sender(0, WAIT).is(1);
        d.sender(0, TOP).is(700);
        d.send(9, 701, 0).is(1);
        // u is 2999 and then 3000, reckoned from the TOP that the one ahead left.
        d.send(9, 3700, 0).is(1);
        d.send(9, 6700, 0).is(0);
        d.send(9, 6699, 0).is(1);
        d.sender(0, TOP).is(6699);
    }

    private static void theSecondOneIsBelieved() {
        Check.promise(7, "WAIT is 1 less, TOP q; is WAIT 0 then, it is SET by q, GOT is 1: GOOD; else NOT YET.");
        Desk d = Desk.rated();
        d.send(9, 700, 0).is(0);
        d.sender(0, WAIT).is(1);
        d.send(9, 701, 0).is(1);
        d.senderIs(0, TOP, 701, 0, 701, 65537, 0, 1);
        d.count(4).is(1);
        d.count(5).is(1);
    }

    private static void probationGoesRound() {
        Check.promise(7, "if q is TOP + 1 modulo 65536:");
        Desk d = Desk.rated();
        d.send(9, 65535, 0).is(0);
        d.send(9, 0, 0).is(1);
        d.senderIs(0, TOP, 0, 0, 0, 65537, 0, 1);
        Desk e = Desk.rated();
        e.send(9, 65534, 0).is(0);
        e.send(9, 65535, 0).is(1);
        e.senderIs(0, TOP, 65535, 0, 65535);
    }

    private static void probationStartsAgain() {
        Check.promise(7, "If q is another one: WAIT is 1, TOP q: NOT YET.");
        for (int q : new int[] {100, 102, 99, 0, 65535, 32868}) {
            Desk d = Desk.rated();
            d.send(9, 100, 0).is(0);
            d.send(9, q, 0).is(0);
            d.senderIs(0, TOP, q, 0, 100, 65537, 1, 0);
            d.send(9, q + 1 & 65535, 0).is(1);
            d.sender(0, BASE).is(q + 1 & 65535);
        }
        Desk e = Desk.rated();
        e.send(9, 0, 0).is(0);
        e.send(9, 65535, 0).is(0);
        e.sender(0, WAIT).is(1);
        e.send(9, 0, 0).is(1);
    }

    private static void setByTheOneThatIsBelieved() {
        Check.promise(7, "SET (of a NUMBER q: BASE and TOP are q, ODD 65537, ROUNDS, GOT, GOT BEFORE, DUE BEFORE 0)");
        Desk d = Desk.rated();
        d.send(9, 5, 0).is(0);
        d.sender(0, BASE).is(5);
        d.send(9, 40, 0).is(0);
        d.sender(0, BASE).is(5);
        d.send(9, 41, 0).is(1);
        d.senderIs(0, TOP, 41, 0, 41, 65537, 0, 1, 0, 1, 0);
    }

    private static void noProbationTwice() {
        Check.promise(7, "WAIT above 0: if q is TOP + 1 modulo 65536:");
        Desk d = Desk.rated();
        for (int q = 0; q < 12; q += 2) {
            d.send(9, q, 0).is(0);
            d.sender(0, WAIT).is(1);
        }
        d.send(9, 11, 0).is(1);
        d.sender(0, WAIT).is(0);
        Check.promise(7, "WAIT 0: u below 3000:");
        d.send(9, 13, 0).is(1);
        d.sender(0, WAIT).is(0);
        // One by which it is SET anew has no probation either.
        d.send(9, 30000, 0).is(0);
        d.sender(0, WAIT).is(0);
        d.send(9, 30001, 0).is(1);
        d.sender(0, WAIT).is(0);
        d.send(9, 30003, 0).is(1);
    }

    private static void aheadByTheFewestAndTheMost() {
        Check.promise(7, AHEAD);
        for (int u : new int[] {0, 1, 2, 2999}) {
            Desk d = Desk.believed(9, 1000);
            d.send(9, 1000 + u, 0).is(1);
            d.senderIs(0, TOP, 1000 + u, 0, 1000, 65537, 0, 2, 0, u + 1, u - 1);
        }
        Desk e = Desk.believed(9, 1000);
        e.send(9, 4000, 0).is(0);
        e.senderIs(0, TOP, 1000, 0, 1000, 4001, 0, 1, 0, 1, 0);
    }

    private static void aheadAcrossTheRound() {
        Check.promise(7, AHEAD);
        for (int u : new int[] {1, 2999}) {
            Desk d = Desk.believed(9, 65535);
            d.send(9, u - 1, 0).is(1);
            d.senderIs(0, TOP, u - 1, 65536, 65535, 65537, 0, 2, 0, u + 1, u - 1);
        }
        Desk e = Desk.believed(9, 65535);
        e.send(9, 2999, 0).is(0);
        e.senderIs(0, TOP, 65535, 0, 65535, 3000);
        Desk f = Desk.believed(9, 62537);
        f.send(9, 65535, 0).is(1);
        f.senderIs(0, TOP, 65535, 0);
        Desk g = Desk.believed(9, 62537);
        g.send(9, 0, 0).is(1);
        g.senderIs(0, TOP, 0, 65536);
    }

    private static void twiceTheTopIsNoRound() {
        Check.promise(7, AHEAD);
        for (int q : new int[] {0, 65535}) {
            Desk d = Desk.believed(9, q);
            d.send(9, q, 0).is(1);
            d.senderIs(0, TOP, q, 0, q, 65537, 0, 2);
        }
    }

    private static void roundsAddUp() {
        Check.promise(11, "ROUNDS (0 or a multiple of 65536)");
        Desk d = Desk.believed(9, 65535);
        int q = 65535;
        for (int k = 0; k < 45; k++) {
            q = q + 2999 & 65535;
            d.send(9, q, 0).is(1);
        }
        // 65535 and 45 times 2999 are 200490, which is three rounds and 3882.
        d.senderIs(0, TOP, 3882, 3 * 65536, 65535);
        d.sender(0, DUE).is(45 * 2999 + 1);
    }

    private static void behindByTheMost() {
        Check.promise(7, "Else nothing (an old one, or one twice). Then (if not NOT YET) GOT is 1 more: GOOD.");
        for (int back : new int[] {1, 99}) {
            Desk d = Desk.believed(9, 1000);
            d.send(9, 1000 - back, 0).is(1);
            d.senderIs(0, TOP, 1000, 0, 1000, 65537, 0, 2, 0, 1, -1);
        }
        Check.promise(7, BEHIND);
        Desk e = Desk.believed(9, 1000);
        e.send(9, 900, 0).is(0);
        e.senderIs(0, TOP, 1000, 0, 1000, 901, 0, 1);
        e.count(5).is(2);
    }

    private static void behindAcrossTheRound() {
        Check.promise(7, BEHIND);
        Desk d = Desk.believed(9, 50);
        d.send(9, 65486, 0).is(0);
        d.senderIs(0, TOP, 50, 0, 50, 65487, 0, 1);
        Desk e = Desk.believed(9, 50);
        e.send(9, 65487, 0).is(1);
        e.senderIs(0, TOP, 50, 0, 50, 65537, 0, 2);
        Desk f = Desk.believed(9, 99);
        f.send(9, 0, 0).is(1);
        f.sender(0, TOP).is(99);
        Desk g = Desk.believed(9, 100);
        g.send(9, 0, 0).is(0);
        g.sender(0, ODD).is(1);
    }

    private static void noNumberIsOddAtFirst() {
        Check.promise(7, ODD_OR_SET);
        for (int q : new int[] {0, 1, 65535}) {
            Desk d = Desk.believed(9, 30000);
            d.send(9, q, 0).is(0);
            d.sender(0, ODD).is(q + 1 & 65535);
            d.sender(0, BASE).is(30000);
        }
    }

    private static void oddGoesRound() {
        Check.promise(7, ODD_OR_SET);
        Desk d = Desk.believed(9, 30000);
        d.send(9, 65535, 0).is(0);
        d.sender(0, ODD).is(0);
        d.send(9, 0, 0).is(1);
        d.senderIs(0, TOP, 0, 0, 0, 65537, 0, 1);
        d.event(0, 0).is(6);
        d.event(0, 2).is(0);
    }

    private static void oddIsTheLatest() {
        Check.promise(7, ODD_OR_SET);
        Desk d = Desk.believed(9, 10);
        d.send(9, 40000, 0).is(0);
        d.send(9, 40000, 0).is(0);
        d.send(9, 40002, 0).is(0);
        d.sender(0, ODD).is(40003);
        d.send(9, 40001, 0).is(0);
        d.sender(0, ODD).is(40002);
        d.send(9, 40002, 0).is(1);
        d.senderIs(0, TOP, 40002, 0, 40002, 65537, 0, 1);
        d.count(5).is(5);
        d.count(4).is(2);
    }

    private static void oddOutlivesGoodOnes() {
        Check.promise(7, ODD_OR_SET);
        Desk d = Desk.believed(9, 10);
        d.send(9, 40000, 0).is(0);
        d.send(9, 11, 0).is(1);
        d.sender(0, ODD).is(40001);
        d.send(9, 40001, 0).is(1);
        d.senderIs(0, TOP, 40001, 0, 40001, 65537, 0, 1);
    }

    private static void oddThatIsAheadIsNoSet() {
        Check.promise(7, AHEAD);
        Desk d = Desk.believed(9, 10);
        d.send(9, 3010, 0).is(0);
        d.sender(0, ODD).is(3011);
        d.send(9, 12, 0).is(1);
        d.send(9, 3011, 0).is(1);
        d.senderIs(0, TOP, 3011, 0, 10, 3011, 0, 3);
    }

    private static void setAnewClearsTheRest() {
        Check.promise(11, "SET (of a NUMBER q: BASE and TOP are q, ODD 65537, ROUNDS, GOT, GOT BEFORE, DUE BEFORE 0)");
        Desk d = Desk.believed(9, 65535);
        d.send(9, 3, 0).is(1);
        d.report(0).is(32);
        d.send(9, 20000, 0).is(0);
        d.send(9, 20001, 0).is(1);
        d.senderIs(0, TOP, 20001, 0, 20001, 65537, 0, 1, 0, 1, 0);
        d.send(9, 20003, 0).is(1);
        // With GOT BEFORE and DUE BEFORE 0: 3 are due, 2 came, 256 by 3 is 85.
        d.report(0).is(32);
        d.at(12).is(85);
    }

    private static void longNumberOnBothSidesOfTheRound() {
        Check.promise(14, LONG_NUMBER);
        Desk d = Desk.believed(9, 65535);
        d.eventIs(0, 6, 0, 65535, 0);
        d.send(9, 65535, 0).is(1);
        d.eventIs(0, 5, 0, 65535, 0);
        d.send(9, 0, 0).is(1);
        d.time(0, 65536).is(100);
        d.send(9, 0, 0).is(1);
        d.eventIs(0, 5, 0, 65536, 0);
        d.send(9, 65535, 0).is(1);
        d.eventIs(0, 5, 0, 65535, 0);
        d.send(9, 65534, 0).is(1);
        d.eventIs(0, 3, 0, 65534, 0);
        d.sender(0, ROUNDS).is(65536);
    }

    private static void longNumberBelowNone() {
        Check.promise(14, LONG_NUMBER);
        Desk d = Desk.believed(9, 0);
        d.next(0).is(0);
        d.send(9, 65535, 0).is(1);
        d.eventIs(0, 3, 0, -1, 0);
        d.send(9, 65437, 0).is(1);
        d.eventIs(0, 3, 0, -99, 0);
        d.send(9, 65436, 0).is(0);
        d.count(3).is(3);
        d.next(0).is(0);
    }

    private static void dueAndLostWhileItHasWait() {
        Check.promise(11, "(as in BLOCKS; 8 and 9 are 0 while it has WAIT)");
        Desk d = Desk.rated();
        d.send(9, 100, 0).is(0);
        d.senderIs(0, DUE, 0, 0);
        d.send(9, 500, 0).is(0);
        d.senderIs(0, DUE, 0, 0);
        d.send(9, 501, 0).is(1);
        d.senderIs(0, DUE, 1, 0);
    }

    private static void dueAcrossTheRound() {
        Check.promise(11, "DUE is ROUNDS and TOP together less BASE, and 1; LOST is DUE less GOT.");
        Desk d = Desk.believed(9, 65535);
        d.senderIs(0, DUE, 1, 0);
        d.send(9, 1, 0).is(1);
        d.senderIs(0, DUE, 3, 1);
        d.send(9, 0, 0).is(1);
        d.senderIs(0, DUE, 3, 0);
    }

    private static void lostBelowNone() {
        Check.promise(11, "LOST is DUE less GOT.");
        Desk d = Desk.believed(9, 7);
        d.send(9, 7, 0).is(1);
        d.senderIs(0, DUE, 1, -1);
        d.send(9, 6, 0).is(1);
        d.senderIs(0, DUE, 1, -2);
    }

    private static void lostAtItsEnds() {
        Check.promise(11, "LOST (3, as a number with a sign, cut to -8388608 .. 8388607)");
        Desk d = Desk.believed(9, 0);
        Inside.setRounds(d, 0, 129 * 65536);
        // 8454145 are due.
        long[][] gotAndLost = {{65537, 8388607}, {65538, 8388607}, {65539, 8388606}, {65536, 8388607}, {0, 8388607},
            {8454145, 0}, {16842752, -8388607}, {16842753, -8388608}, {16842754, -8388608}, {MOST, -8388608}};
        for (long[] pair : gotAndLost) {
            Inside.setGot(d, 0, (int) pair[0]);
            d.senderIs(0, DUE, 8454145, pair[1]);
        }
    }

    private static void senderIsAskedAtItsEnds() {
        Check.promise(11, "The least int: BAD.");
        Desk d = Desk.believed(9, 7);
        d.sender(0, -1).is(LEAST);
        d.sender(0, 0).is(9);
        d.sender(0, 16).is(0);
        d.sender(0, 17).is(LEAST);
        d.sender(0, LEAST).is(LEAST);
        d.sender(0, MOST).is(LEAST);
        d.sender(1, 16).is(LEAST);
        d.sender(-1, 17).is(LEAST);
    }

    private static void theFirstTransitIsKeptAlone() {
        Check.promise(11, "the first one is kept alone;");
        Desk d = Desk.rated();
        d.pass(500);
        d.send(9, 1, 77).is(0);
        d.send(9, 2, 12345).is(1);
        d.sender(0, JITTER).is(0);
        d.send(9, 3, 12346).is(1);
        d.sender(0, JITTER).is(1);
    }

    private static void transitIsCut() {
        Check.promise(11, "the TRANSIT is NOW times the RATE by 1000 (cut), less the STAMP, as ints that wrap;");
        Desk d = new Desk();
        d.rate(0, 1);
        d.believe(9, 2);
        d.pass(999);
        d.send(9, 3, 0).is(1);
        d.sender(0, JITTER).is(0);
        d.pass(1);
        d.send(9, 4, 0).is(1);
        d.sender(0, JITTER).is(1);
        Desk e = new Desk();
        e.rate(0, 999);
        e.believe(9, 2);
        e.pass(1);
        e.send(9, 3, 0).is(1);
        e.sender(0, JITTER).is(0);
        e.pass(1);
        e.send(9, 4, 0).is(1);
        e.sender(0, JITTER).is(1);
    }

    private static void transitOfTheMostRate() {
        Check.promise(11, "the TRANSIT is NOW times the RATE by 1000 (cut), less the STAMP, as ints that wrap;");
        Desk d = new Desk();
        d.rate(0, 200000);
        d.believe(9, 2);
        d.pass(1);
        d.send(9, 3, 0).is(1);
        d.sender(0, JITTER).is(200);
        d.pass(10000);
        d.send(9, 4, 0).is(1);
        // 200 and 2000000, less 208 by 16.
        d.sender(0, JITTER).is(2000187);
        for (int k = 0; k < 4; k++) {
            d.pass(10000);
        }
        d.send(9, 5, 0).is(1);
        // 2000187 and 8000000, less 2000195 by 16.
        d.sender(0, JITTER).is(9875175);
    }

    private static void transitWraps() {
        Check.promise(11, "then d is the size of it less that kept (as ints that wrap; the least one stays so)");
        Desk d = Desk.rated();
        d.send(9, 1, 0).is(0);
        d.send(9, 2, LEAST).is(1);
        d.pass(1);
        // -2147483648 is kept; 1 less 2147483647 is -2147483646.
        d.send(9, 3, MOST).is(1);
        d.sender(0, JITTER).is(2);
        Desk e = Desk.rated();
        e.send(9, 1, 0).is(0);
        e.send(9, 2, MOST).is(1);
        e.pass(2);
        e.send(9, 3, LEAST).is(1);
        // 2 less the least int is -2147483646, that less -2147483647 is 1.
        e.sender(0, JITTER).is(1);
    }

    private static void jitterIsRoundedDown() {
        Check.promise(11, JITTER_GROWS);
        Desk d = Desk.believed(9, 1);
        d.send(9, 2, 7).is(1);
        d.sender(0, JITTER).is(7);
        d.send(9, 3, 7).is(1);
        d.sender(0, JITTER).is(7);
        d.send(9, 4, 8).is(1);
        d.sender(0, JITTER).is(8);
        d.send(9, 5, 8).is(1);
        d.sender(0, JITTER).is(7);
        Desk e = Desk.believed(9, 1);
        e.send(9, 2, 24).is(1);
        e.send(9, 3, 24).is(1);
        e.sender(0, JITTER).is(22);
    }

    private static void jitterOfTheLeast() {
        Check.promise(11, "(as ints that wrap; the least one stays so)");
        Desk d = Desk.believed(9, 1);
        d.send(9, 2, LEAST).is(1);
        d.sender(0, JITTER).is(LEAST);
        Desk e = Desk.believed(9, 1);
        e.send(9, 2, LEAST + 1).is(1);
        e.sender(0, JITTER).is(MOST);
        Desk f = Desk.believed(9, 1);
        f.send(9, 2, MOST).is(1);
        f.sender(0, JITTER).is(MOST);
    }

    private static void jitterThatIsBelowNone() {
        Check.promise(11, JITTER_GROWS);
        Desk d = Desk.believed(9, 1);
        d.send(9, 2, LEAST).is(1);
        d.send(9, 3, LEAST).is(1);
        // The least int and 8 are -2147483640, which by 16 is -134217727.5: -134217728.
        d.sender(0, JITTER).is(-2147483648L + 134217728);
        Desk e = Desk.believed(9, 1);
        e.send(9, 2, MOST).is(1);
        e.send(9, 3, MOST).is(1);
        // The most and 8 wrap to -2147483641, which by 16 is -134217728, rounded down; less that wraps again.
        e.sender(0, JITTER).is(-2147483648L + 134217727);
    }

    private static void jitterOfGoodOnesAlone() {
        Check.promise(11, "JITTER (0 at first), of GOOD ones:");
        Desk d = Desk.believed(9, 1000);
        d.send(9, 4000, 5000).is(0);
        d.sender(0, JITTER).is(0);
        d.send(9, 901, 0).is(1);
        d.sender(0, JITTER).is(0);
        d.send(9, 901, 40).is(1);
        d.sender(0, JITTER).is(40);
        d.send(9, 900, 5000).is(0);
        d.sender(0, JITTER).is(40);
    }

    private static void jitterGoesOnBehindSet() {
        Check.promise(11, "JITTER (0 at first), of GOOD ones:");
        Desk d = Desk.believed(9, 10);
        d.send(9, 11, 8).is(1);
        d.send(9, 20000, 9999).is(0);
        d.send(9, 20001, 28).is(1);
        // SET does not name it: 8 and 20, less 16 by 16.
        d.sender(0, JITTER).is(27);
    }
}
