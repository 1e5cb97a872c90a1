/** Boundary cases of a tick, of the draws and of the log; a test for each sentence. */
final class EdgeTickTests {
    private static final int MODULUS = 1000003;

    private EdgeTickTests() {
    }

    static void run() {
        Check.test("terms: step 1, with a deadline of t or less", EdgeTickTests::deadlineOfT);
        Check.test("terms: step 1, a deadline that passed while it was ready is gone", EdgeTickTests::deadlineGone);
        Check.test("terms: step 1, by ascending deadlines, then numbers", EdgeTickTests::timeoutOrder);
        Check.test("terms: step 1, what follows comes ahead of the next return", EdgeTickTests::timeoutEnds);
        Check.test("terms: step 2, if SPURIOUS is above 0", EdgeTickTests::spuriousAboveZero);
        Check.test("terms: step 2, for each thread that is still parked", EdgeTickTests::stillParked);
        Check.test("terms: step 2, if it is less than SPURIOUS", EdgeTickTests::lessThanSpurious);
        Check.test("terms: step 2, SPURIOUS 1000", EdgeTickTests::alwaysSpurious);
        Check.test("terms: step 2, by ascending numbers, a draw for each", EdgeTickTests::drawForEach);
        Check.test("terms: step 2, a return in it ends other waits ahead of the next draw", EdgeTickTests::returnEnds);
        Check.test("terms: step 3, the greatest priority", EdgeTickTests::greatestRuns);
        Check.test("terms: step 3, of several the one that ran longest ago", EdgeTickTests::longestAgo);
        Check.test("terms: step 3, one that never ran is ahead of all that did", EdgeTickTests::neverRan);
        Check.test("terms: step 3, then the lowest number", EdgeTickTests::lowestNumber);
        Check.test("terms: step 3, of all that are ready behind the steps 1 and 2", EdgeTickTests::readyInThatTick);
        Check.test("terms: step 3, without a ready thread the tick is idle", EdgeTickTests::idle);
        Check.test("terms: step 4, the time is t + 1", EdgeTickTests::timeGoesOn);
        Check.test("terms: a draw replaces x, modulo 1000003", EdgeTickTests::modulo);
        Check.test("terms: x is 1 at first", EdgeTickTests::firstDraw);
        Check.test("terms: settings at first, and from the next tick on", EdgeTickTests::settings);
        Check.test("terms: the latest 40 events, one tick with more than one", EdgeTickTests::fullLog);
        Check.test("terms: the log, each kind with its number", EdgeTickTests::kinds);
    }

    /** The x whose next draw makes x this one. */
    private static int before(int x) {
        for (int seed = 0; seed < MODULUS; seed++) {
            if ((1103L * seed + 12345L) % MODULUS == x) {
                return seed;
            }
        }
        return -1;
    }

    // ---- step 1

    private static void deadlineOfT() {
        PermitPark park = Parks.of("thread 1: nap 2, run 9;");
        park.run(2);
        Check.due("at 1 the deadline 2 is not there", park.thread(0, 2), 1);
        park.run(1);
        Check.due("at 2 it is", park.thread(0, 2), 0);
        Check.dueText("log", Parks.log(park), "0.0.0.2 2.1.0.2");
        Check.due("it runs in the same tick", park.thread(0, 11), 2);
    }

    private static void deadlineGone() {
        PermitPark park = Parks.of("thread 1: nap 3, run 2, park, run 1;");
        park.run(1);
        park.wake(0);
        park.run(10);
        Check.due("parked without a deadline", park.thread(0, 2), 1);
        Check.due("timeouts", park.thread(0, 14), 0);
        PermitPark later = Parks.of("thread 1: nap 3, nap 9, run 1;");
        later.run(1);
        later.wake(0);
        later.run(1);
        Check.due("a later deadline", later.thread(0, 7), 10);
        Check.due("run(8)", later.run(8), 0);
        Check.due("timeouts", later.thread(0, 14), 0);
        Check.due("run(1)", later.run(1), 1);
        Check.due("timeouts", later.thread(0, 14), 1);
    }

    /** As each tick lets all return that are due, those of one tick have one deadline: their numbers tell. */
    private static void timeoutOrder() {
        PermitPark same = Parks.of("thread 6: nap 3, run 9; thread 7: nap 4, run 9; thread 8: nap 5, run 9;");
        same.run(6);
        // The thread 2 napped at 0, 1 at 1, 0 at 2: all until 5.
        Check.dueText("by ascending numbers", Parks.log(same, 3), "5.1.0.2 5.1.1.2 5.1.2.2");
        PermitPark each = Parks.of("thread 9: nap 6, run 9; thread 8: nap 4, run 9; thread 7: nap 2, run 9;");
        each.run(7);
        Check.dueText("by ascending deadlines", Parks.log(each, 3), "4.1.2.2 5.1.1.2 6.1.0.2");
        PermitPark ten = Parks.of("thread 1:nap 19,run 1;thread 1:nap 18,run 1;thread 1:nap 17,run 1;"
            + "thread 1:nap 16,run 1;thread 1:nap 15,run 1;thread 1:nap 14,run 1;thread 1:nap 13,run 1;"
            + "thread 1:nap 12,run 1;thread 1:nap 11,run 1;thread 1:nap 10,run 1;");
        ten.run(19);
        Check.due("all are parked", ten.count(6), 10);
        ten.run(1);
        Check.due("none is parked", ten.count(6), 0);
        for (int i = 0; i < 10; i++) {
            Check.due("the return " + i, ten.event(10 + i, 2), i);
        }
    }

    private static void timeoutEnds() {
        PermitPark park = Parks.of("thread 9: lock 0, nap 5; thread 8: lock 1, nap 3; thread 7: lock 0; thread 6: lock 1;");
        park.run(6);
        Check.dueText("state", Parks.facts(park, 2), "1 1 2 2");
        park.run(1);
        Check.dueText("log", Parks.log(park, 6), "6.1.0.2 6.5.0.0 6.4.0.0 6.3.2.0 6.5.2.0 6.4.2.0"
            + " 6.1.1.2 6.5.1.0 6.4.1.1 6.3.3.1 6.5.3.0 6.4.3.1");
    }

    // ---- step 2 and the draws

    private static void spuriousAboveZero() {
        PermitPark park = Parks.of("thread 1: park; seed 77;");
        park.run(500);
        Check.due("x with SPURIOUS 0", park.count(4), 77);
        Check.due("parked with SPURIOUS 0", park.thread(0, 2), 1);
        park.set(0, 1);
        park.seed(before(1));
        park.run(1);
        Check.due("x with SPURIOUS 1", park.count(4), 1);
        Check.due("a draw of 1 is not less than 1", park.thread(0, 2), 1);
    }

    private static void stillParked() {
        PermitPark park = Parks.of("thread 9: nap 1, run 20; thread 8: lock 0, run 20; thread 7: unlock 0; thread 6: run 1;"
            + "set 0 1000; seed 5;");
        park.run(1);
        Check.due("none was parked in the step 2", park.count(4), 5);
        park.run(3);
        Check.due("it timed out in the step 1", park.count(4), 5);
        Check.due("timeouts", park.thread(0, 14), 1);
        PermitPark blocked = Parks.of("thread 9: lock 0, run 20; thread 1: lock 0; set 0 1000; seed 5;");
        blocked.setBase(1, 9);
        blocked.run(9);
        Check.due("none is drawn for a blocked one", blocked.count(4), 5);
        Check.due("state", blocked.thread(1, 2), 2);
    }

    /** Whether a parked thread returns with this x at its draw. */
    private static boolean returns(int spurious, int x) {
        PermitPark park = Parks.of("thread 1: park, run 9;");
        park.run(1);
        park.set(0, spurious);
        park.seed(before(x));
        park.run(1);
        Check.due("x", park.count(4), x);
        Check.due("returns", park.thread(0, 15), park.thread(0, 2) == 0 ? 1 : 0);
        Check.due("cause", park.thread(0, 6), park.thread(0, 2) == 0 ? 3 : 0);
        return park.thread(0, 2) == 0;
    }

    private static void lessThanSpurious() {
        int[] draws = {0, 1, 2, 499, 500, 501, 997, 998, 999};
        int[] settings = {1, 2, 499, 500, 501, 998, 999, 1000};
        for (int draw : draws) {
            for (int spurious : settings) {
                for (int thousands : new int[] {0, 567000, 999000}) {
                    Check.due("draw " + draw + ", SPURIOUS " + spurious, returns(spurious, thousands + draw),
                        draw < spurious);
                }
            }
        }
        // The greatest x leave 0, 1 and 2.
        for (int x = 1000000; x <= 1000002; x++) {
            Check.due("x " + x + ", SPURIOUS 1", returns(1, x), x == 1000000);
            Check.due("x " + x + ", SPURIOUS 2", returns(2, x), x <= 1000001);
            Check.due("x " + x + ", SPURIOUS 3", returns(3, x), true);
        }
    }

    private static void alwaysSpurious() {
        PermitPark park = Parks.of("thread 1: await 0; set 0 1000;");
        park.run(500);
        Check.due("returns", park.thread(0, 15), 499);
        Check.due("parks", park.thread(0, 12), 500);
        Check.due("idle ticks", park.count(12), 0);
    }

    private static void drawForEach() {
        // 0 becomes 12345, that one 628841: the draws 345 and 841 (then 599382: 382).
        PermitPark park = Parks.of("thread 9: park, run 9; thread 8: park, run 9; thread 7: park, run 9;");
        park.run(3);
        park.seed(0);
        park.set(0, 400);
        long third = (1103L * 628841 + 12345) % MODULUS;
        park.run(1);
        Check.due("x behind three draws", park.count(4), third);
        Check.dueText("the first and perhaps the third return", Parks.facts(park, 2),
            "0 1 " + (third % 1000 < 400 ? 0 : 1));
        Check.due("event", park.event(3, 2), 0);
        long fourth = (1103L * third + 12345) % MODULUS;
        int parked = park.count(6);
        park.run(1);
        Check.due("a draw for each that is parked", park.count(4), parked == 1 ? fourth
            : (1103L * fourth + 12345) % MODULUS);
    }

    private static void returnEnds() {
        PermitPark park = Parks.of("thread 9: lock 0, park; thread 8: lock 0, park, run 9; thread 7: park, run 9;");
        park.run(4);
        Check.dueText("state", Parks.facts(park, 2), "1 2 1");
        park.seed(0);
        park.set(0, 1000);
        park.run(1);
        Check.dueText("log", Parks.log(park, 4), "4.1.0.3 4.5.0.0 4.4.0.0 4.3.1.0 4.1.2.3 4.0.1.-1");
        Check.due("two draws, none for the one that was blocked", park.count(4), 628841);
    }

    private static void modulo() {
        int[] seeds = {0, 1, 895, 896, 1000002, 1000001, before(0), before(1000002), before(1000000), before(999999)};
        for (int seed : seeds) {
            PermitPark park = Parks.of("thread 1: park, run 1;");
            park.run(1);
            park.seed(seed);
            park.set(0, 1);
            park.run(1);
            Check.due("x behind " + seed, park.count(4), (1103L * seed + 12345L) % MODULUS);
        }
        Check.due("0 comes again", (1103L * before(0) + 12345L) % MODULUS, 0);
        PermitPark park = Parks.of("thread 1: await 0; set 0 1; seed 1000002;");
        long x = 1000002;
        for (int i = 0; i < 160; i++) {
            boolean isParked = park.thread(0, 2) == 1;
            park.run(1);
            x = isParked ? (1103L * x + 12345L) % MODULUS : x;
            Check.due("x", park.count(4), x);
        }
    }

    private static void firstDraw() {
        PermitPark park = Parks.of("thread 1: park, run 1; set 0 448;");
        Check.due("x", park.count(4), 1);
        park.run(2);
        Check.due("x behind a draw", park.count(4), 13448);
        Check.due("448 is not less than 448", park.thread(0, 2), 1);
        PermitPark less = Parks.of("thread 1: park, run 1; set 0 449;");
        Check.due("448 is less than 449", less.run(2), 1);
    }

    private static void settings() {
        PermitPark park = new PermitPark();
        park.addThread(1, 3, 0);
        Check.due("SPURIOUS", park.count(0), 0);
        Check.due("LENDING", park.count(1), 1);
        park.run(2);
        Check.due("no draw", park.count(4), 1);
        park.set(0, 1000);
        Check.due("not by the call", park.thread(0, 2), 1);
        park.run(1);
        Check.due("in the next tick", park.thread(0, 15), 1);
        park.set(0, 0);
        park.run(1);
        Check.due("not any more", park.thread(0, 15), 1);
    }

    // ---- steps 3 and 4

    private static void greatestRuns() {
        PermitPark park = Parks.of("thread 8: run 1; thread 9: run 1; thread 1: run 1;");
        for (int thread : new int[] {1, 0, 2, -1}) {
            Check.due("next()", park.next(), thread);
            park.run(1);
        }
        PermitPark lent = Parks.of("thread 1: lock 0, run 5; thread 8: nap 1, lock 0; thread 5: nap 1, run 5;");
        lent.setBase(0, 9);
        lent.run(1);
        lent.setBase(0, 1);
        lent.run(4);
        Check.dueText("state", Parks.facts(lent, 2), "0 2 0");
        Check.due("with what is lent", lent.next(), 0);
        lent.set(1, 0);
        Check.due("without it", lent.next(), 2);
    }

    private static void longestAgo() {
        PermitPark park = Parks.of("thread 5: run 9; thread 5: run 9; thread 5: run 9;");
        park.run(3);
        park.setBase(2, 6);
        park.run(1);
        park.setBase(2, 5);
        park.setBase(0, 6);
        park.run(1);
        park.setBase(0, 5);
        Check.dueText("ran at last", Parks.facts(park, 11), "4 1 3");
        for (int thread : new int[] {1, 2, 0, 1, 2, 0}) {
            Check.due("next()", park.next(), thread);
            park.run(1);
        }
    }

    private static void neverRan() {
        PermitPark park = Parks.of("thread 5: run 9;");
        park.run(1);
        Check.due("ran at the time 0", park.thread(0, 11), 0);
        park.addThread(5, 0, 9);
        park.addThread(5, 0, 9);
        for (int thread : new int[] {1, 2, 0, 1, 2}) {
            Check.due("next()", park.next(), thread);
            park.run(1);
        }
        park.addThread(4, 0, 9);
        Check.due("a greater priority goes ahead of that", park.next(), 0);
    }

    private static void lowestNumber() {
        PermitPark park = Parks.of("thread 5:run 2;".repeat(10));
        for (int i = 0; i < 20; i++) {
            Check.due("next()", park.next(), i % 10);
            park.run(1);
        }
        Check.due("done", park.count(8), 10);
    }

    private static void readyInThatTick() {
        PermitPark own = Parks.of("thread 9: nap 2, run 5; thread 1: run 20;");
        own.run(2);
        Check.due("one that timed out", own.next(), 0);
        PermitPark freed = Parks.of("thread 9: lock 0, nap 2; thread 8: lock 0, run 5; thread 7: run 20;");
        freed.run(3);
        Check.dueText("state", Parks.facts(freed, 2), "1 2 0");
        Check.due("one that got a lock by a timeout", freed.next(), 1);
        PermitPark lent = Parks.of("thread 9: lock 0, nap 5, run 5; thread 8: lock 0, run 5; thread 7: run 20;");
        lent.run(3);
        lent.setBase(0, 1);
        lent.run(3);
        Check.due("one that timed out, with what it is lent", lent.next(), 0);
        PermitPark drawn = Parks.of("thread 9: park, run 5; thread 1: run 20; set 0 1000;");
        drawn.run(1);
        Check.due("one that returns without a cause", drawn.next(), 0);
        drawn.set(0, 0);
        Check.due("without draws", drawn.next(), 1);
    }

    private static void idle() {
        PermitPark park = Parks.of("thread 1: lock 0, lock 0;");
        park.run(2);
        Check.due("idle ticks", park.count(12), 0);
        Check.due("run(3)", park.run(3), 0);
        Check.due("idle ticks", park.count(12), 3);
        PermitPark parked = Parks.of("thread 1: nap 2;");
        parked.run(3);
        Check.due("one that ends by its timeout does not run", parked.count(12), 2);
    }

    private static void timeGoesOn() {
        PermitPark park = new PermitPark();
        for (int i = 0; i < 5; i++) {
            Check.due("time", park.count(3), i);
            park.run(1);
        }
        park.run(500);
        Check.due("time", park.count(3), 505);
        park.wake(park.addThread(1, 1, 0));
        Check.due("calls take no time", park.count(3), 505);
    }

    // ---- the log

    private static void fullLog() {
        // The tick 21 of this has 30 events, ahead of it there are 11: the first one of 41 is gone.
        PermitPark park = Parks.of("thread 9:lock 0,nap 20;" + "thread 1:lock 0;".repeat(9));
        park.run(21);
        Check.due("events", park.count(13), 11);
        Check.due("ahead(1, 3)", park.ahead(1, 3), 30);
        park.run(1);
        Check.due("events", park.count(13), 40);
        Check.due("the earliest is that of the nap", park.event(0, 1), 0);
        Check.due("got a lock", park.events(3, PermitPark.NONE), 9);
        Check.due("done", park.events(5, PermitPark.NONE), 10);
        Check.due("the latest is that of the last lock", park.event(39, 1) * 10 + park.event(39, 2), 49);
        Check.dueThrow("event(40, 0)", Edges.INDEX, () -> park.event(40, 0));
    }

    private static void kinds() {
        PermitPark park = Parks.of("thread 9: park, nap 5, lock 5, tell 9, wake 1, wake 1, steal 1, unlock 5, unlock 5;"
            + "thread 8: lock 5, run 1;");
        park.run(1);
        park.wake(0);
        park.run(1);
        park.rouse(0);
        park.run(2);
        park.wake(0);
        park.wake(0);
        park.run(5);
        Check.dueText("log", Parks.log(park), "0.0.0.-1 1.1.0.1 1.0.0.6 2.1.0.3 2.3.0.5 4.7.0.-1 5.7.1.0 6.8.0.1 7.4.0.5"
            + " 8.6.0.8");
    }
}
