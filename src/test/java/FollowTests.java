/** Promises 25 to 28: what follows. */
final class FollowTests {
    private static final Class<? extends RuntimeException> INDEX = IndexOutOfBoundsException.class;
    private static final int[] FAR = {Integer.MIN_VALUE, Integer.MAX_VALUE};

    private FollowTests() {
    }

    static void run() {
        Check.test("promise 25: chain", FollowTests::chain);
        Check.test("promise 25: chain into a ring", FollowTests::chainIntoRing);
        Check.test("promise 25: exceptions", FollowTests::chainExceptions);
        Check.test("promise 26: stuck", FollowTests::stuck);
        Check.test("promise 26: the longest chain and the longest ring", FollowTests::longest);
        Check.test("promise 27: lent", FollowTests::lent);
        Check.test("promise 28: busy", FollowTests::busy);
    }

    /** The thread 0 is blocked at a lock of 1, that one at a lock of 2, which is parked; 3 is parked. */
    private static PermitPark waiting() {
        PermitPark park = Parks.of("thread 1: nap 7, lock 0; thread 2: nap 3, lock 0, lock 1; thread 3: lock 1, park;"
            + "thread 9: park, unlock 0;");
        park.run(8);
        return park;
    }

    private static void dueChain(PermitPark park, int thread, int... due) {
        for (int i = 0; i < due.length; i++) {
            Check.due("chain(" + thread + ", " + i + ")", park.chain(thread, i), due[i]);
        }
        for (int i : new int[] {due.length, due.length + 1, 31, 32, Integer.MAX_VALUE}) {
            Check.due("chain(" + thread + ", " + i + ")", park.chain(thread, i), -1);
        }
    }

    private static void chain() {
        PermitPark park = waiting();
        park.run(4);
        Check.dueText("state", Parks.facts(park, 2), "2 2 1 1");
        dueChain(park, 0, 1, 2);
        dueChain(park, 1, 2);
        dueChain(park, 2);
        dueChain(park, 3);
    }

    private static void chainIntoRing() {
        PermitPark park = Parks.of("thread 2: lock 0, lock 1; thread 2: lock 1, lock 2; thread 2: lock 2, lock 0;"
            + "thread 1: lock 5, lock 1; thread 1: nap 9, lock 5;");
        park.run(20);
        Check.dueText("state", Parks.facts(park, 2), "2 2 2 2 2");
        dueChain(park, 0, 1, 2);
        dueChain(park, 1, 2, 0);
        dueChain(park, 2, 0, 1);
        dueChain(park, 3, 1, 2, 0);
        dueChain(park, 4, 3, 1, 2, 0);
        Check.due("stuck()", park.stuck(), 31);
    }

    private static void chainExceptions() {
        PermitPark park = waiting();
        for (int wrong : new int[] {-1, 4, FAR[0], FAR[1]}) {
            Check.dueThrow("chain(" + wrong + ", 0)", INDEX, () -> park.chain(wrong, 0));
        }
        for (int wrong : new int[] {-1, FAR[0]}) {
            Check.dueThrow("chain(0, " + wrong + ")", INDEX, () -> park.chain(0, wrong));
        }
        for (int wrong : new int[] {-1, 4, FAR[0], FAR[1]}) {
            Check.dueThrow("lent(" + wrong + ")", INDEX, () -> (long) park.lent(wrong));
        }
    }

    private static void stuck() {
        PermitPark park = waiting();
        park.run(4);
        Check.due("parked and ready ones may run again", park.stuck(), 0);
        park.wake(3);
        park.run(1);
        Check.due("a faulty one", park.stuck(), 8);
        park.interrupt(2);
        Check.due("all that are done", park.stuck(), 15);
        PermitPark faulty = Parks.of("thread 9: lock 0, lock 0; thread 5: lock 1, lock 0; thread 4: lock 1;"
            + "thread 3: run 9; thread 2: run 9;");
        faulty.run(5);
        Check.due("blocked behind a faulty one", faulty.stuck(), 7);
        faulty.wake(1);
        faulty.interrupt(2);
        Check.due("blocked behind a faulty one", faulty.stuck(), 7);
        faulty.run(9);
        Check.due("done", faulty.stuck(), 15);
    }

    private static void longest() {
        PermitPark park = new PermitPark();
        for (int i = 0; i < 6; i++) {
            park.addThread(5, 9, i);
            park.addInstruction(i, 9, (i + 1) % 6);
        }
        for (int i = 6; i < 10; i++) {
            park.addThread(1, 9, 3);
        }
        park.run(16);
        Check.due("blocked", park.count(7), 10);
        Check.due("stuck()", park.stuck(), 1023);
        dueChain(park, 0, 1, 2, 3, 4, 5);
        dueChain(park, 9, 3, 4, 5, 0, 1, 2);
        park.setBase(8, 9);
        Check.dueText("priorities", Parks.facts(park, 1), "9 9 9 9 9 9 1 1 9 1");
        PermitPark open = Parks.of("thread 9: lock 0, nap 100; thread 8: lock 1, lock 0; thread 7: lock 2, lock 1;"
            + "thread 6: lock 3, lock 2; thread 5: lock 4, lock 3; thread 4: lock 5, lock 4; thread 3: lock 5;");
        open.run(20);
        Check.due("blocked", open.count(7), 6);
        dueChain(open, 6, 5, 4, 3, 2, 1, 0);
        Check.due("stuck()", open.stuck(), 0);
    }

    private static void lent() {
        PermitPark park = Parks.of("thread 3: lock 0, run 20; thread 7: nap 2, lock 0; thread 9: run 1;");
        Check.dueReal("lent(0)", park.lent(0), 1.0f);
        park.run(5);
        Check.dueText("priority", Parks.facts(park, 1), "7 7 9");
        Check.dueReal("lent(0)", park.lent(0), 7.0f / 3.0f);
        Check.dueReal("lent(1)", park.lent(1), 1.0f);
        park.setBase(1, 8);
        Check.dueReal("lent(0)", park.lent(0), 8.0f / 3.0f);
        park.set(1, 0);
        Check.dueReal("lent(0)", park.lent(0), 1.0f);
    }

    private static void busy() {
        PermitPark park = Parks.of("thread 3: run 1, nap 2, run 1;");
        Check.dueReal("busy()", park.busy(), 0.0);
        park.run(1);
        Check.dueReal("busy()", park.busy(), 1.0);
        park.run(2);
        Check.dueReal("busy()", park.busy(), 2.0 / 3.0);
        park.run(4);
        Check.dueReal("busy()", park.busy(), 3.0 / 7.0);
        PermitPark idle = new PermitPark();
        idle.run(3);
        Check.dueReal("busy()", idle.busy(), 0.0);
    }
}
