/** Boundary cases of promises 20 to 28: acts from outside, time, what follows; a test for each sentence. */
final class EdgeActTests {
    private EdgeActTests() {
    }

    static void run() {
        Check.test("promise 20: 0, it returned", EdgeActTests::wakeParked);
        Check.test("promise 20: 1, it has a permit now; 2, the wakeup was merged", EdgeActTests::wakeAgain);
        Check.test("promise 20: 1 and 2 of a blocked one", EdgeActTests::wakeBlocked);
        Check.test("promise 20: 3, it was wasted", EdgeActTests::wakeOver);
        Check.test("promise 21: 0, it returned", EdgeActTests::interruptParked);
        Check.test("promise 21: 1, it has an interrupt now; 2, it had one already", EdgeActTests::interruptAgain);
        Check.test("promise 21: 3, it is done or faulty", EdgeActTests::interruptOver);
        Check.test("promise 22: whether it was parked", EdgeActTests::rouse);
        Check.test("promise 22: rouse() makes no draw", EdgeActTests::rouseWithoutDraw);
        Check.test("promises 20 to 22: if there is no such thread", EdgeActTests::noSuchThread);
        Check.test("promises 20 to 22: a thread that ends by its return, and what follows", EdgeActTests::endsByReturn);
        Check.test("terms: events of calls between ticks have the present time", EdgeActTests::presentTime);
        Check.test("promise 23: ticks 1 to 500", EdgeActTests::runRange);
        Check.test("promise 23: the number of threads that became done in them", EdgeActTests::becameDone);
        Check.test("promise 23: ten threads in one tick", EdgeActTests::allInOneTick);
        Check.test("promise 24: the thread that would run, NONE if it would be idle", EdgeActTests::next);
        Check.test("promise 24: behind its timeouts", EdgeActTests::nextBehindTimeouts);
        Check.test("promise 24: behind its returns without a cause", EdgeActTests::nextBehindReturns);
        Check.test("promise 25: index 0 for the first holder, or index is negative", EdgeActTests::chainIndex);
        Check.test("promise 25: a thread", EdgeActTests::chainThread);
        Check.test("promise 25: up to one that is not blocked", EdgeActTests::chainEnd);
        Check.test("promise 25: until the next one would be the thread itself", EdgeActTests::chainRing);
        Check.test("promise 25: or one that was told already", EdgeActTests::chainIntoRing);
        Check.test("promise 26: none, without threads or with threads that may run", EdgeActTests::noneStuck);
        Check.test("promise 26: those that are faulty, done", EdgeActTests::overAreStuck);
        Check.test("promise 26: or blocked at a lock whose holder is such a thread", EdgeActTests::blockedAreStuck);
        Check.test("promise 26: a ring of blocked threads, too", EdgeActTests::ringIsStuck);
        Check.test("promise 27: its priority divided by its BASE", EdgeActTests::lent);
        Check.test("promise 27: if there is no such thread", EdgeActTests::lentThread);
        Check.test("promises 20, 21, 27, 29, 30, 32: in a ring of waits", EdgeActTests::inRing);
        Check.test("promise 28: 0.0 at the time 0", EdgeActTests::busyAtZero);
        Check.test("promise 28: no idle tick, all ticks idle", EdgeActTests::busyBounds);
        Check.test("an object is used for at most 512 calls", EdgeActTests::lastCall);
    }

    // ---- promises 20 to 22

    private static void wakeParked() {
        PermitPark park = Parks.of("thread 1: park, nap 5, await 0, run 1;");
        park.run(1);
        Check.due("parked", park.wake(0), 0);
        park.run(1);
        Check.due("with a deadline", park.wake(0), 0);
        Check.due("deadline", park.thread(0, 7), -1);
        park.run(1);
        Check.due("awaiting", park.wake(0), 0);
        Check.due("place", park.thread(0, 3), 2);
        Check.due("cause", park.thread(0, 6), 1);
        Check.due("permit", park.thread(0, 4), 0);
        Check.due("returns", park.thread(0, 13), 3);
        Check.due("merged", park.count(14), 0);
    }

    private static void wakeAgain() {
        PermitPark park = Parks.of("thread 1: park, park, park, run 1;");
        Check.due("the first", park.wake(0), 1);
        Check.due("the second", park.wake(0), 2);
        Check.due("the third", park.wake(0), 2);
        Check.due("permit", park.thread(0, 4), 1);
        Check.due("merged", park.count(14), 2);
        Check.dueText("log", Parks.log(park), "0.7.0.-1 0.7.0.-1");
        park.run(1);
        Check.due("permits do not add up", park.thread(0, 4), 0);
        park.run(1);
        Check.due("it parks then", park.thread(0, 2), 1);
        Check.due("it returned", park.wake(0), 0);
        Check.due("no permit was left by that", park.wake(0), 1);
    }

    private static void wakeBlocked() {
        PermitPark park = Parks.of("thread 9: lock 0, nap 9; thread 8: lock 0, run 1;");
        park.run(3);
        Check.due("the first", park.wake(1), 1);
        Check.due("the second", park.wake(1), 2);
        Check.due("it stays blocked", park.thread(1, 2), 2);
        Check.due("lock(0, 1)", park.lock(0, 1), 1);
        Check.due("cause", park.thread(1, 6), 0);
        Check.due("returns", park.thread(1, 13), 0);
    }

    private static void wakeOver() {
        PermitPark park = Parks.of("thread 2: run 1; thread 1: unlock 0;");
        park.run(2);
        for (int thread = 0; thread < 2; thread++) {
            Check.due("wake(" + thread + ")", park.wake(thread), 3);
            Check.due("wake(" + thread + ") again", park.wake(thread), 3);
            Check.due("permit", park.thread(thread, 4), 0);
            Check.due("wasted", park.count(15), 2 * thread + 2);
        }
        Check.dueText("state", Parks.facts(park, 2), "3 4");
        Check.dueText("log", Parks.log(park), "0.5.0.0 1.6.1.0");
        Check.due("merged", park.count(14), 0);
    }

    private static void interruptParked() {
        PermitPark park = Parks.of("thread 1: park, nap 5, await 0, run 1;");
        for (int i = 0; i < 3; i++) {
            park.run(1);
            Check.due("interrupt(0)", park.interrupt(0), 0);
            Check.due("interrupt", park.thread(0, 5), 0);
            Check.due("deadline", park.thread(0, 7), -1);
            Check.due("cause", park.thread(0, 6), 4);
        }
        Check.due("returns", park.thread(0, 16), 3);
        Check.due("place", park.thread(0, 3), 2);
    }

    private static void interruptAgain() {
        PermitPark park = Parks.of("thread 9: lock 0, run 1, nap 9; thread 1: run 1; thread 8: nap 1, lock 0, run 1;");
        for (int thread : new int[] {0, 1}) {
            Check.due("the first", park.interrupt(thread), 1);
            Check.due("the second", park.interrupt(thread), 2);
            Check.due("the third", park.interrupt(thread), 2);
            Check.due("interrupt", park.thread(thread, 5), 1);
        }
        Check.due("events", park.count(13), 0);
        park.run(3);
        Check.due("it goes on at once", park.thread(0, 2), 3);
        Check.due("interrupt", park.thread(0, 5), 0);
        PermitPark blocked = Parks.of("thread 9: lock 0, nap 9; thread 8: lock 0, run 1;");
        blocked.run(3);
        Check.due("the first of a blocked one", blocked.interrupt(1), 1);
        Check.due("the second of a blocked one", blocked.interrupt(1), 2);
        Check.due("it stays blocked", blocked.thread(1, 2), 2);
    }

    private static void interruptOver() {
        PermitPark park = Parks.of("thread 2: run 1; thread 1: unlock 0;");
        park.run(2);
        for (int thread = 0; thread < 2; thread++) {
            Check.due("interrupt(" + thread + ")", park.interrupt(thread), 3);
            Check.due("interrupt(" + thread + ") again", park.interrupt(thread), 3);
            Check.due("interrupt", park.thread(thread, 5), 0);
        }
        Check.dueText("state", Parks.facts(park, 2), "3 4");
        Check.due("wasted", park.count(15), 0);
        // An interrupt ahead of that is kept.
        PermitPark ahead = Parks.of("thread 1: run 1;");
        ahead.interrupt(0);
        ahead.run(1);
        Check.due("interrupt(0)", ahead.interrupt(0), 3);
    }

    private static void rouse() {
        PermitPark park = Parks.of("thread 9: lock 0, park, run 1; thread 8: lock 0; thread 7: unlock 1; thread 6: run 1;"
            + "thread 1: run 9;");
        park.run(5);
        int[] due = {1, 0, 0, 0, 0};
        for (int thread = 0; thread < 5; thread++) {
            Check.due("rouse(" + thread + ")", park.rouse(thread), due[thread] == 1);
        }
        Check.due("rouse(0) again", park.rouse(0), false);
        Check.dueText("state", Parks.facts(park, 2), "0 2 4 3 0");
        Check.dueText("cause", Parks.facts(park, 6), "3 0 0 0 0");
        Check.dueText("returns", Parks.facts(park, 15), "1 0 0 0 0");
        for (int thread : new int[] {0, 2, 3}) {
            Edges.unchanged("rouse() of one that is not parked", Edges::rich, one -> one.rouse(thread) ? 1 : 0);
        }
    }

    private static void rouseWithoutDraw() {
        PermitPark park = Parks.of("thread 1: park, run 1; set 0 1000; seed 7;");
        park.run(1);
        Check.due("rouse(0)", park.rouse(0), true);
        Check.due("x", park.count(4), 7);
        PermitPark without = Parks.of("thread 1: park, run 1; set 0 0;");
        without.run(1);
        Check.due("rouse(0) with SPURIOUS 0", without.rouse(0), true);
        Check.due("cause", without.thread(0, 6), 3);
    }

    private static void noSuchThread() {
        Check.due("wake(0)", Edges.rich().wake(0), 1);
        Check.due("wake(3)", Edges.rich().wake(3), 3);
        Check.due("interrupt(3)", Edges.rich().interrupt(3), 3);
        Check.due("rouse(3)", Edges.rich().rouse(3), false);
        for (int thread : new int[] {-1, 4, 9, 10, Edges.LEAST, Edges.MOST}) {
            Edges.refused("wake(" + thread + ")", Edges.INDEX, park -> park.wake(thread));
            Edges.refused("interrupt(" + thread + ")", Edges.INDEX, park -> park.interrupt(thread));
            Edges.refused("rouse(" + thread + ")", Edges.INDEX, park -> park.rouse(thread) ? 1 : 0);
        }
        PermitPark ten = Parks.of("thread 1:park;".repeat(10));
        Check.due("wake(9)", ten.wake(9), 1);
        Check.due("interrupt(9)", ten.interrupt(9), 1);
        Check.due("rouse(9)", ten.rouse(9), false);
        Check.dueThrow("wake(10)", Edges.INDEX, () -> ten.wake(10));
    }

    private static void endsByReturn() {
        for (int how = 0; how < 3; how++) {
            PermitPark park = Parks.of("thread 9: lock 5, lock 0, park; thread 8: lock 0; thread 7: lock 5, run 2;");
            park.run(5);
            Check.due("it was parked", how == 0 ? park.wake(0) : how == 1 ? park.interrupt(0) : park.rouse(0) ? 0 : 1, 0);
            int cause = how == 0 ? 1 : how == 1 ? 4 : 3;
            Check.dueText("log", Parks.log(park, 5), "5.1.0." + cause
                + " 5.5.0.0 5.4.0.0 5.3.1.0 5.5.1.0 5.4.1.0 5.4.0.5 5.3.2.5");
            Check.dueText("state", Parks.facts(park, 2), "3 3 0");
            Check.due("done ahead of run(1)", park.run(1), 0);
        }
    }

    private static void presentTime() {
        PermitPark park = Parks.of("thread 1: run 1, nap 9, run 20;");
        park.wake(0);
        park.wake(0);
        Check.dueText("at the time 0", Parks.log(park), "0.7.0.-1");
        park.run(2);
        park.interrupt(0);
        park.run(1);
        park.wake(0);
        park.wake(0);
        Check.dueText("at the time 3", Parks.log(park, 1), "3.7.0.-1");
        PermitPark parked = Parks.of("thread 1: nap 9, run 20;");
        parked.run(1);
        parked.rouse(0);
        Check.dueText("of the tick 0, at the time 1", Parks.log(parked), "0.0.0.9 1.1.0.3");
    }

    // ---- promises 23 and 24

    private static void runRange() {
        for (int ticks : new int[] {1, 2, 499, 500}) {
            PermitPark park = Edges.rich();
            park.run(ticks);
            Check.due("time", park.count(3), 8 + ticks);
        }
        for (int ticks : new int[] {0, -1, 501, Edges.LEAST, Edges.MOST}) {
            Edges.refused("run(" + ticks + ")", Edges.ARGUMENT, park -> park.run(ticks));
        }
    }

    private static void becameDone() {
        PermitPark park = Parks.of("thread 9: run 1; thread 8: run 1; thread 7: unlock 0; thread 6: nap 3; thread 5: park;");
        int[] due = {1, 1, 0, 0, 0, 0, 1, 0};
        for (int done : due) {
            Check.due("run(1) at " + park.count(3), park.run(1), done);
        }
        park.wake(4);
        Check.due("done by a call", park.run(500), 0);
        Check.due("done", park.count(8), 4);
        Check.due("without threads", new PermitPark().run(1), 0);
    }

    /** Nine threads are blocked behind one; all end by its end. */
    private static void allInOneTick() {
        PermitPark park = Parks.of("thread 9:lock 0,nap 20;" + "thread 1:lock 0;".repeat(9));
        Check.due("run(21)", park.run(21), 0);
        Check.due("run(1)", park.run(1), 10);
        Check.due("idle ticks", park.count(12), 11);
        StringBuilder due = new StringBuilder("21.1.0.2 21.5.0.0");
        for (int thread = 1; thread <= 9; thread++) {
            due.append(" 21.4.").append(thread - 1).append(".0 21.3.").append(thread).append(".0 21.5.").append(thread)
                .append(".0");
        }
        Check.dueText("log, but for the first one of 41", Parks.log(park, 10), due + " 21.4.9.0");
        Check.due("locks", park.count(11), 0);
    }

    private static void next() {
        Check.due("without threads", new PermitPark().next(), -1);
        PermitPark park = Parks.of("thread 1: park; thread 2: unlock 0; thread 1: run 1;");
        int[] due = {1, 0, 2, -1};
        for (int thread : due) {
            Check.due("next()", park.next(), thread);
            park.run(1);
        }
        Edges.unchanged("next()", Edges::rich, PermitPark::next);
    }

    private static void nextBehindTimeouts() {
        PermitPark park = Parks.of("thread 1: nap 2, run 1;");
        park.run(1);
        Check.due("at 1, the deadline is 2", park.next(), -1);
        park.run(1);
        Check.due("at 2", park.next(), 0);
        PermitPark ends = Parks.of("thread 1: nap 2;");
        ends.run(2);
        Check.due("one that ends by its timeout does not run", ends.next(), -1);
        PermitPark holder = Parks.of("thread 2: lock 0, nap 2; thread 1: lock 0, run 1;");
        holder.run(3);
        Check.due("one that gets a lock by a timeout", holder.next(), 1);
    }

    private static void nextBehindReturns() {
        PermitPark park = Parks.of("thread 1: park, run 1; set 0 1000;");
        park.run(1);
        Check.due("all return", park.next(), 0);
        Check.due("x stays", park.count(4), 1);
        park.set(0, 0);
        Check.due("none returns", park.next(), -1);
    }

    // ---- promises 25 to 28

    /** Each thread but the first one is blocked at a lock of the one ahead of it; the first one is parked. */
    private static PermitPark row(int threads) {
        PermitPark park = new PermitPark();
        for (int i = 0; i < threads; i++) {
            park.addThread(9 - i, 9, i == 6 ? 5 : i);
            if (i == 0) {
                park.addInstruction(i, 2, 200);
            } else if (i < 6) {
                park.addInstruction(i, 9, i - 1);
            }
        }
        park.run(2 * threads);
        Check.due("blocked", park.count(7), threads - 1);
        return park;
    }

    private static void chainIndex() {
        PermitPark park = row(3);
        Check.due("chain(2, 0)", park.chain(2, 0), 1);
        Check.due("chain(2, 1)", park.chain(2, 1), 0);
        for (int index : new int[] {2, 3, 9, 10, 31, 32, 33, Edges.MOST}) {
            Check.due("chain(2, " + index + ")", park.chain(2, index), -1);
            Check.due("chain(0, " + index + ")", park.chain(0, index), -1);
        }
        Check.due("of one that is not blocked", park.chain(0, 0), -1);
        for (int index : new int[] {-1, -2, Edges.LEAST}) {
            Edges.refused("chain(0, " + index + ")", Edges.INDEX, one -> one.chain(0, index));
            Edges.refused("chain(3, " + index + ")", Edges.INDEX, one -> one.chain(3, index));
        }
    }

    private static void chainThread() {
        Check.due("chain(0, 0)", Edges.rich().chain(0, 0), 1);
        Check.due("chain(3, 0)", Edges.rich().chain(3, 0), -1);
        for (int thread : new int[] {-1, 4, 9, 10, Edges.LEAST, Edges.MOST}) {
            Edges.refused("chain(" + thread + ", 0)", Edges.INDEX, park -> park.chain(thread, 0));
        }
    }

    private static void chainEnd() {
        PermitPark park = row(7);
        for (int index = 0; index < 6; index++) {
            Check.due("chain(6, " + index + ")", park.chain(6, index), 5 - index);
        }
        Check.due("chain(6, 6)", park.chain(6, 6), -1);
        PermitPark faulty = Parks.of("thread 9: lock 0, lock 0; thread 1: lock 0;");
        faulty.run(3);
        Check.due("a faulty one is told", faulty.chain(1, 0), 0);
        Check.due("and is the last one", faulty.chain(1, 1), -1);
    }

    private static void chainRing() {
        PermitPark two = Parks.of("thread 1: lock 0, lock 1; thread 1: lock 1, lock 0;");
        two.run(4);
        Check.due("chain(0, 0)", two.chain(0, 0), 1);
        Check.due("chain(0, 1)", two.chain(0, 1), -1);
        Check.due("chain(1, 0)", two.chain(1, 0), 0);
        Check.due("chain(1, 1)", two.chain(1, 1), -1);
    }

    private static void chainIntoRing() {
        PermitPark park = Parks.of("thread 1: lock 0, lock 1; thread 1: lock 1, lock 0; thread 1: nap 5, lock 0;");
        park.run(12);
        Check.dueText("state", Parks.facts(park, 2), "2 2 2");
        int[] due = {0, 1, -1, -1};
        for (int index = 0; index < due.length; index++) {
            Check.due("chain(2, " + index + ")", park.chain(2, index), due[index]);
        }
    }

    private static void noneStuck() {
        Check.due("without threads", new PermitPark().stuck(), 0);
        Check.due("ready, parked, blocked", row(7).stuck(), 0);
        Edges.unchanged("stuck()", Edges::rich, PermitPark::stuck);
    }

    private static void overAreStuck() {
        PermitPark park = Parks.of("thread 1:run 1;".repeat(9) + "thread 1:unlock 0;");
        for (int i = 0; i < 10; i++) {
            Check.due("stuck()", park.stuck(), (1 << i) - 1);
            park.run(1);
        }
        Check.due("all ten", park.stuck(), 1023);
    }

    private static void blockedAreStuck() {
        PermitPark park = Parks.of("thread 9: lock 0, lock 0; thread 8: lock 1, lock 0; thread 7: lock 2, lock 1;"
            + "thread 1: run 20;");
        park.run(1);
        Check.due("not yet", park.stuck(), 0);
        park.run(1);
        Check.due("the faulty one", park.stuck(), 1);
        park.run(2);
        Check.due("the first one behind it", park.stuck(), 3);
        park.run(2);
        Check.due("the second one behind it", park.stuck(), 7);
        PermitPark parked = row(3);
        parked.wake(0);
        Check.due("all done", parked.stuck(), 7);
    }

    private static void ringIsStuck() {
        PermitPark park = Parks.of("thread 1: lock 0, lock 1; thread 1: lock 1, lock 0; thread 1: nap 5, lock 0;");
        park.run(3);
        Check.due("not yet", park.stuck(), 0);
        park.run(2);
        Check.due("the ring", park.stuck(), 3);
        park.run(7);
        Check.due("and the one behind it", park.stuck(), 7);
        park.wake(0);
        park.interrupt(1);
        park.run(500);
        Check.due("whatever happens from outside", park.stuck(), 7);
        Check.dueText("state", Parks.facts(park, 2), "2 2 2");
    }

    private static void lent() {
        PermitPark park = Parks.of("thread 9: lock 0, nap 50; thread 9: lock 0;");
        park.run(3);
        int[][] bases = {{1, 1}, {1, 9}, {9, 1}, {9, 9}, {3, 7}, {7, 3}};
        float[] due = {1.0f, 9.0f, 1.0f, 1.0f, 7.0f / 3.0f, 1.0f};
        for (int i = 0; i < bases.length; i++) {
            park.setBase(0, bases[i][0]);
            park.setBase(1, bases[i][1]);
            Check.dueReal("lent(0)", park.lent(0), due[i]);
            Check.dueReal("lent(1)", park.lent(1), 1.0f);
        }
        park.set(1, 0);
        park.setBase(0, 1);
        park.setBase(1, 9);
        Check.dueReal("without lending", park.lent(0), 1.0f);
    }

    private static void lentThread() {
        Check.dueReal("lent(0)", Edges.rich().lent(0), 1.0f);
        Check.dueReal("lent(1)", Edges.rich().lent(1), 5.0f / 4.0f);
        Check.dueReal("lent(3)", Edges.rich().lent(3), 1.0f);
        for (int thread : new int[] {-1, 4, 9, 10, Edges.LEAST, Edges.MOST}) {
            Edges.refused("lent(" + thread + ")", Edges.INDEX, park -> (long) park.lent(thread));
        }
    }

    private static void inRing() {
        PermitPark park = Parks.of("thread 1: lock 0, lock 1; thread 1: lock 1, lock 2; thread 1: lock 2, lock 0;");
        park.run(6);
        park.setBase(1, 9);
        float[] lent = {9.0f, 1.0f, 9.0f};
        for (int thread = 0; thread < 3; thread++) {
            Check.due("priority", park.thread(thread, 1), 9);
            Check.dueReal("lent(" + thread + ")", park.lent(thread), lent[thread]);
            Check.due("doneIn", park.doneIn(thread, 500), -1);
            Check.due("returnsIn", park.returnsIn(thread, 500), -1);
            Check.due("bestBase", park.bestBase(thread, 200), -1);
            Check.due("rouse", park.rouse(thread), false);
            Check.due("wake", park.wake(thread), 1);
            Check.due("wake", park.wake(thread), 2);
            Check.due("interrupt", park.interrupt(thread), 1);
            Check.due("interrupt", park.interrupt(thread), 2);
        }
        Check.due("next()", park.next(), -1);
        Check.due("run(500)", park.run(500), 0);
        Check.dueText("state", Parks.facts(park, 2), "2 2 2");
        Check.dueText("greatest", Parks.facts(park, 17), "9 9 9");
    }

    private static void busyAtZero() {
        Check.dueReal("of a new object", new PermitPark().busy(), 0.0);
        Check.dueReal("ahead of the first tick", Parks.of("thread 1: run 1;").busy(), 0.0);
        PermitPark park = Parks.of("thread 1: run 9;");
        park.save(0);
        park.run(3);
        park.restore(0);
        Check.dueReal("at the time 0 again", park.busy(), 0.0);
    }

    private static void busyBounds() {
        PermitPark park = Parks.of("thread 1: run 3;");
        park.run(1);
        Check.dueReal("no idle tick", park.busy(), 1.0);
        park.run(2);
        Check.dueReal("no idle tick", park.busy(), 1.0);
        park.run(4);
        Check.dueReal("3 of 7", park.busy(), 3.0 / 7.0);
        PermitPark idle = new PermitPark();
        idle.run(500);
        Check.dueReal("all ticks idle", idle.busy(), 0.0);
        PermitPark long1 = Parks.of("thread 1: run 1;");
        for (int i = 0; i < 100; i++) {
            long1.run(500);
        }
        Check.dueReal("1 of 50000", long1.busy(), 1.0 / 50000.0);
    }

    private static void lastCall() {
        PermitPark park = new PermitPark();
        park.addThread(1, 3, 0);
        park.set(0, 1000);
        for (int call = 3; call <= 511; call++) {
            park.run(500);
        }
        Check.due("the 512th call", park.thread(0, 15), 509 * 500 - 1);
    }
}
