/** Promises 20 to 24, and the terms: instructions, ticks, priorities, acts from outside. */
final class TickTests {
    private static final Class<? extends RuntimeException> INDEX = IndexOutOfBoundsException.class;
    private static final Class<? extends RuntimeException> ARGUMENT = IllegalArgumentException.class;
    private static final int[] FAR = {Integer.MIN_VALUE, Integer.MAX_VALUE};

    private TickTests() {
    }

    static void run() {
        Check.test("promise 20: wake", TickTests::wake);
        Check.test("promise 20: a wakeup that ends a thread", TickTests::wakeEnds);
        Check.test("promise 21: interrupt", TickTests::interrupt);
        Check.test("promise 22: rouse", TickTests::rouse);
        Check.test("promises 20 to 22: exceptions", TickTests::exceptions);
        Check.test("promise 23: run", TickTests::runTicks);
        Check.test("promise 23: a parked thread is done as soon as it returns", TickTests::doneByReturn);
        Check.test("promise 24: next", TickTests::next);
        Check.test("terms: an interrupt goes ahead of a permit", TickTests::interruptFirst);
        Check.test("terms: run", TickTests::runInstruction);
        Check.test("terms: nap", TickTests::nap);
        Check.test("terms: await, set, clear", TickTests::await);
        Check.test("terms: wake", TickTests::wakeInstruction);
        Check.test("terms: tell", TickTests::tell);
        Check.test("terms: steal", TickTests::steal);
        Check.test("terms: lock and unlock", TickTests::locks);
        Check.test("terms: faults", TickTests::faults);
        Check.test("terms: who gets a lock", TickTests::whoGetsALock);
        Check.test("terms: locks of a done thread", TickTests::locksOfDone);
        Check.test("terms: a chain of ends", TickTests::chainOfEnds);
        Check.test("terms: who runs", TickTests::whoRuns);
        Check.test("terms: lending", TickTests::lending);
        Check.test("terms: lending in a ring", TickTests::ring);
        Check.test("terms: timeouts", TickTests::timeouts);
        Check.test("terms: returns without a cause", TickTests::spurious);
    }

    private static void wake() {
        PermitPark park = Parks.of("thread 5: lock 0, park, run 1; thread 4: lock 0; thread 9: unlock 3;"
            + "thread 8: run 1; thread 1: run 1;");
        park.run(5);
        Check.dueText("state", Parks.facts(park, 2), "1 2 4 3 0");
        int[] first = {0, 1, 3, 3, 1};
        int[] second = {1, 2, 3, 3, 2};
        for (int i = 0; i < 5; i++) {
            Check.due("wake(" + i + ")", park.wake(i), first[i]);
            Check.due("wake(" + i + ") again", park.wake(i), second[i]);
        }
        Check.dueText("state", Parks.facts(park, 2), "0 2 4 3 0");
        Check.dueText("permit", Parks.facts(park, 4), "1 1 0 0 1");
        Check.dueText("cause", Parks.facts(park, 6), "1 0 0 0 0");
        Check.dueText("returns", Parks.facts(park, 13), "1 0 0 0 0");
        Check.due("merged", park.count(14), 2);
        Check.due("wasted", park.count(15), 4);
        Check.dueText("log", Parks.log(park), "0.6.2.0 1.5.3.0 2.3.0.0 3.0.0.-1 4.2.1.0 5.1.0.1 5.7.1.-1 5.7.4.-1");
        Check.due("time", park.count(3), 5);
    }

    private static void wakeEnds() {
        PermitPark park = Parks.of("thread 5: lock 2, lock 4, park; thread 1: lock 4;");
        park.run(4);
        Check.due("wake(0)", park.wake(0), 0);
        Check.dueText("state", Parks.facts(park, 2), "3 3");
        Check.dueText("log", Parks.log(park, 4), "4.1.0.1 4.5.0.0 4.4.0.2 4.4.0.4 4.3.1.4 4.5.1.0 4.4.1.4");
        Check.due("locks", park.count(11), 0);
        Check.due("wake(0)", park.wake(0), 3);
    }

    private static void interrupt() {
        PermitPark park = Parks.of("thread 5: lock 0, nap 9, run 1; thread 4: lock 0; thread 9: unlock 3;"
            + "thread 8: run 1; thread 1: run 1; thread 7: park;");
        park.run(6);
        Check.dueText("state", Parks.facts(park, 2), "1 2 4 3 0 1");
        int[] first = {0, 1, 3, 3, 1, 0};
        int[] second = {1, 2, 3, 3, 2, 3};
        for (int i = 0; i < 6; i++) {
            Check.due("interrupt(" + i + ")", park.interrupt(i), first[i]);
            Check.due("interrupt(" + i + ") again", park.interrupt(i), second[i]);
        }
        Check.dueText("state", Parks.facts(park, 2), "0 2 4 3 0 3");
        Check.dueText("interrupt", Parks.facts(park, 5), "1 1 0 0 1 0");
        Check.dueText("cause", Parks.facts(park, 6), "4 0 0 0 0 4");
        Check.dueText("deadline", Parks.facts(park, 7), "-1 -1 -1 -1 -1 -1");
        Check.dueText("returns", Parks.facts(park, 16), "1 0 0 0 0 1");
        Check.dueText("log", Parks.log(park, 6), "6.1.0.4 6.1.5.4 6.5.5.0");
        Check.due("merged", park.count(14), 0);
        Check.due("wasted", park.count(15), 0);
    }

    private static void rouse() {
        PermitPark park = Parks.of("thread 5: lock 0, nap 9, run 1; thread 4: lock 0; thread 9: unlock 3;"
            + "thread 8: run 1; thread 1: run 1; thread 7: lock 1, park;");
        park.run(7);
        boolean[] due = {true, false, false, false, false, true};
        for (int i = 0; i < 6; i++) {
            Check.due("rouse(" + i + ")", park.rouse(i), due[i]);
            Check.due("rouse(" + i + ") again", park.rouse(i), false);
        }
        Check.dueText("state", Parks.facts(park, 2), "0 2 4 3 0 3");
        Check.dueText("cause", Parks.facts(park, 6), "3 0 0 0 0 3");
        Check.dueText("deadline", Parks.facts(park, 7), "-1 -1 -1 -1 -1 -1");
        Check.dueText("returns", Parks.facts(park, 15), "1 0 0 0 0 1");
        Check.dueText("log", Parks.log(park, 7), "7.1.0.3 7.1.5.3 7.5.5.0 7.4.5.1");
        Check.due("x", park.count(4), 1);
    }

    private static void exceptions() {
        PermitPark park = Parks.of("thread 1: park; thread 1: park;");
        for (int wrong : new int[] {-1, 2, 9, 10, FAR[0], FAR[1]}) {
            Check.dueThrow("wake(" + wrong + ")", INDEX, () -> park.wake(wrong));
            Check.dueThrow("interrupt(" + wrong + ")", INDEX, () -> park.interrupt(wrong));
            Check.dueThrow("rouse(" + wrong + ")", INDEX, () -> park.rouse(wrong) ? 1 : 0);
        }
    }

    private static void runTicks() {
        PermitPark park = Parks.of("thread 5: run 1, nap 20; thread 4: run 2; thread 3: run 1; thread 2: unlock 0;");
        Check.due("run(1)", park.run(1), 0);
        Check.due("time", park.count(3), 1);
        Check.due("run(3)", park.run(3), 1);
        Check.due("run(2)", park.run(2), 1);
        Check.due("run(500)", park.run(500), 1);
        Check.due("time", park.count(3), 506);
        Check.due("idle ticks", park.count(12), 500);
        Check.due("run(1)", park.run(1), 0);
        for (int wrong : new int[] {0, 501, -1, FAR[0], FAR[1]}) {
            Check.dueThrow("run(" + wrong + ")", ARGUMENT, () -> park.run(wrong));
        }
        Check.due("time", park.count(3), 507);
    }

    private static void doneByReturn() {
        PermitPark park = Parks.of("thread 5: nap 2;");
        Check.due("run(2)", park.run(2), 0);
        Check.due("place", park.thread(0, 3), 1);
        Check.due("run(1)", park.run(1), 1);
        Check.dueText("log", Parks.log(park), "0.0.0.2 2.1.0.2 2.5.0.0");
        Check.due("idle ticks", park.count(12), 2);
        PermitPark woken = Parks.of("thread 5: park;");
        woken.run(1);
        woken.wake(0);
        Check.due("done by the call, not by run(1)", woken.run(1), 0);
        Check.due("done", woken.count(8), 1);
    }

    private static void next() {
        PermitPark park = Parks.of("thread 9: nap 2, run 1; thread 2: run 20; thread 2: run 5;");
        int[] due = {0, 1, 0, 2, 1, 2};
        for (int i = 0; i < due.length; i++) {
            Check.due("next() at " + i, park.next(), due[i]);
            Check.due("next() again", park.next(), due[i]);
            park.run(1);
        }
        Check.due("next() of nothing", Parks.of("thread 1: await 1;").next(), 0);
        PermitPark idle = Parks.of("thread 1: await 1;");
        idle.run(1);
        Check.due("next() of an idle one", idle.next(), -1);
        idle.set(0, 1000);
        Check.due("next() behind a return without a cause", idle.next(), 0);
        Check.due("nothing changes", idle.count(4), 1);
        Check.dueText("nothing changes", Parks.log(idle), "0.0.0.-1");
    }

    private static void interruptFirst() {
        PermitPark park = Parks.of("thread 1: park, park, park;");
        park.wake(0);
        park.interrupt(0);
        park.run(1);
        Check.due("cause", park.thread(0, 6), 4);
        Check.due("interrupt", park.thread(0, 5), 0);
        Check.due("permit", park.thread(0, 4), 1);
        park.run(1);
        Check.due("cause", park.thread(0, 6), 1);
        Check.due("permit", park.thread(0, 4), 0);
        Check.due("no events", park.count(13), 0);
        Check.due("parks", park.thread(0, 12), 0);
        Check.due("returns", park.thread(0, 13) + park.thread(0, 16), 0);
        park.run(1);
        Check.due("state", park.thread(0, 2), 1);
        Check.due("cause", park.thread(0, 6), 1);
        PermitPark last = Parks.of("thread 1: nap 5;");
        last.wake(0);
        Check.due("a last one that goes on at once is done", last.run(1), 1);
    }

    private static void runInstruction() {
        PermitPark park = Parks.of("thread 1: run 3, run 1, run 2;");
        int[] places = {0, 0, 1, 2, 2, 3};
        for (int place : places) {
            park.run(1);
            Check.due("place", park.thread(0, 3), place);
        }
        Check.due("state", park.thread(0, 2), 3);
        Check.due("ticks", park.thread(0, 10), 6);
        PermitPark broken = Parks.of("thread 1: run 3; thread 5: nap 2, run 1;");
        broken.run(2);
        Check.due("place", broken.thread(0, 3), 0);
        Check.due("run(2)", broken.run(2), 1);
        Check.due("place", broken.thread(0, 3), 0);
        Check.due("a run that was broken goes on where it was", broken.run(1), 1);
    }

    private static void nap() {
        PermitPark park = Parks.of("thread 1: nap 3, nap 200, run 1;");
        park.run(1);
        Check.due("deadline", park.thread(0, 7), 3);
        Check.due("place", park.thread(0, 3), 1);
        park.run(2);
        Check.due("state", park.thread(0, 2), 1);
        park.run(1);
        Check.due("deadline", park.thread(0, 7), 203);
        Check.due("timeouts", park.thread(0, 14), 1);
        park.run(199);
        Check.due("state", park.thread(0, 2), 1);
        Check.due("run(1)", park.run(1), 1);
        Check.dueText("log", Parks.log(park), "0.0.0.3 3.1.0.2 3.0.0.203 203.1.0.2 203.5.0.0");
    }

    private static void await() {
        PermitPark park = Parks.of("thread 5: await 2, run 1; thread 1: nap 1, set 2, wake 0, clear 2, run 1;");
        park.run(1);
        Check.due("place", park.thread(0, 3), 0);
        Check.due("state", park.thread(0, 2), 1);
        Check.due("deadline", park.thread(0, 7), -1);
        park.run(2);
        Check.due("set does not wake", park.thread(0, 2), 1);
        Check.due("flags", park.count(10), 4);
        park.run(1);
        Check.due("it returned", park.thread(0, 2), 0);
        Check.due("place", park.thread(0, 3), 0);
        park.run(1);
        Check.due("place", park.thread(0, 3), 1);
        Check.due("run(2)", park.run(2), 1);
        Check.due("flags", park.count(10), 0);
        Check.dueText("log", Parks.log(park), "0.0.0.-1 1.0.1.2 2.1.1.2 3.1.0.1 5.5.0.0");
        PermitPark atOnce = Parks.of("thread 5: await 2;");
        atOnce.wake(0);
        atOnce.run(1);
        Check.due("goes on at once", atOnce.thread(0, 2), 0);
        Check.due("stays", atOnce.thread(0, 3), 0);
        Check.due("cause", atOnce.thread(0, 6), 1);
        atOnce.run(1);
        Check.due("parks", atOnce.thread(0, 12), 1);
        atOnce.rouse(0);
        atOnce.run(1);
        Check.due("looks again and parks", atOnce.thread(0, 12), 2);
        PermitPark on = Parks.of("flag 0; thread 1: await 0, clear 0, clear 0, set 7, set 7;");
        on.wake(0);
        on.run(1);
        Check.due("a permit is not used", on.thread(0, 4), 1);
        on.run(1);
        Check.due("flags", on.count(10), 0);
        on.run(3);
        Check.due("flags", on.count(10), 128);
        Check.due("state", on.thread(0, 2), 3);
    }

    private static void wakeInstruction() {
        PermitPark park = Parks.of("thread 9: park, run 1; thread 5: wake 0, wake 0, wake 1, wake 1, wake 9, wake 2;"
            + "thread 8: run 1;");
        park.run(3);
        Check.due("it returned", park.thread(0, 2), 0);
        park.run(2);
        Check.due("wasted", park.count(15), 1);
        park.run(1);
        Check.due("permit of itself", park.thread(1, 4), 1);
        Check.due("place", park.thread(1, 3), 3);
        park.run(1);
        Check.due("merged", park.count(14), 1);
        Check.due("run(2)", park.run(2), 1);
        Check.due("wasted", park.count(15), 2);
        Check.dueText("log", Parks.log(park), "0.0.0.-1 1.5.2.0 2.1.0.1 3.5.0.0 6.7.1.1 8.5.1.0");
    }

    private static void tell() {
        PermitPark park = Parks.of("thread 9: tell 1, park, tell 1, tell 1, park, tell 7, tell 1, park, tell 2;"
            + "thread 8: park, run 1; thread 7: run 1;");
        park.run(2);
        Check.due("no cause, no wakeup", park.count(17), 0);
        park.run(2);
        Check.dueText("state", Parks.facts(park, 2), "1 1 3");
        park.wake(0);
        park.run(1);
        Check.dueText("state", Parks.facts(park, 2), "0 0 3");
        Check.due("cause", park.thread(0, 6), 0);
        Check.due("told on", park.count(17), 1);
        Check.dueText("log", Parks.log(park), "1.0.0.-1 2.0.1.-1 3.5.2.0 4.1.0.1 4.9.0.1 4.1.1.1");
        park.run(2);
        Check.due("told on once", park.count(17), 1);
        Check.due("state", park.thread(0, 2), 1);
        park.wake(0);
        Check.due("cause", park.thread(0, 6), 1);
        park.run(1);
        Check.due("no such thread", park.count(17), 1);
        Check.due("the cause is gone all the same", park.thread(0, 6), 0);
        park.run(2);
        park.interrupt(0);
        Check.due("cause", park.thread(0, 6), 4);
        park.run(1);
        Check.due("not of an interrupt", park.count(17), 1);
        Check.due("cause stays", park.thread(0, 6), 4);
        PermitPark none = Parks.of("thread 1: park, tell 1, steal 1, wake 1, wake 1, run 1;");
        none.wake(0);
        none.run(5);
        for (int what = 14; what <= 17; what++) {
            Check.due("count(" + what + ") behind acts for the number behind the last thread", none.count(what), 0);
        }
        Check.due("no events", none.count(13), 0);
        PermitPark wasted = Parks.of("thread 1: park, tell 1; thread 9: run 1;");
        wasted.wake(0);
        wasted.run(3);
        Check.due("told on and wasted", wasted.count(17) * 10 + wasted.count(15), 11);
        Check.dueText("log", Parks.log(wasted), "0.5.1.0 2.9.0.1 2.5.0.0");
        PermitPark merged = Parks.of("thread 9: park, tell 1; thread 1: run 1;");
        merged.wake(0);
        merged.wake(1);
        merged.run(2);
        Check.dueText("log", Parks.log(merged), "1.9.0.1 1.7.1.0 1.5.0.0");
    }

    private static void steal() {
        PermitPark park = Parks.of("thread 9: steal 1, steal 1, steal 0, steal 9, steal 1, steal 2, park, park;"
            + "thread 1: run 9; thread 1: run 9;");
        park.run(1);
        Check.due("nothing to steal", park.count(16), 0);
        Check.due("permit", park.thread(0, 4), 0);
        park.wake(1);
        park.run(1);
        Check.dueText("permit", Parks.facts(park, 4), "1 0 0");
        park.run(2);
        Check.dueText("not from itself, not from none", Parks.facts(park, 4), "1 0 0");
        Check.due("stolen", park.count(16), 1);
        park.wake(1);
        park.run(1);
        Check.dueText("it had one already", Parks.facts(park, 4), "1 0 0");
        Check.due("stolen", park.count(16), 2);
        Check.due("merged", park.count(14), 0);
        park.run(2);
        Check.due("place", park.thread(0, 3), 7);
        Check.due("permit", park.thread(0, 4), 0);
        park.run(1);
        Check.due("state", park.thread(0, 2), 1);
        Check.dueText("log", Parks.log(park), "1.8.0.1 4.8.0.1 7.0.0.-1");
    }

    private static void locks() {
        PermitPark park = Parks.of("thread 2: lock 0, run 2, unlock 0, run 1; thread 3: nap 2, lock 0, run 1, unlock 0;");
        park.run(3);
        Check.dueText("state", Parks.facts(park, 2), "0 2");
        Check.due("place", park.thread(1, 3), 1);
        Check.due("blocked at", park.thread(1, 8), 0);
        Check.due("locks", park.thread(0, 9), 1);
        park.run(3);
        Check.dueText("state", Parks.facts(park, 2), "0 0");
        Check.dueText("place", Parks.facts(park, 3), "3 2");
        Check.dueText("locks", Parks.facts(park, 9), "0 1");
        Check.due("blocked at", park.thread(1, 8), -1);
        Check.due("run(3)", park.run(3), 2);
        Check.dueText("log", Parks.log(park),
            "0.0.1.2 1.3.0.0 2.1.1.2 2.2.1.0 5.4.0.0 5.3.1.0 7.4.1.0 7.5.1.0 8.5.0.0");
    }

    private static void faults() {
        PermitPark park = Parks.of("thread 9: lock 1, run 1, lock 1, run 1; thread 5: unlock 1; thread 4: lock 1, run 1;"
            + "thread 3: unlock 0;");
        park.run(6);
        Check.dueText("state", Parks.facts(park, 2), "4 4 2 4");
        Check.dueText("place", Parks.facts(park, 3), "2 0 0 0");
        Check.dueText("log", Parks.log(park), "0.3.0.1 2.6.0.2 3.6.1.0 4.2.2.1 5.6.3.0");
        park.run(100);
        Check.due("it holds its locks for ever", park.thread(0, 9), 2);
        Check.due("blocked at", park.thread(2, 8), 1);
        Check.due("lock(1, 1)", park.lock(1, 1), 2);
        PermitPark lent = Parks.of("thread 1: lock 1, lock 1; thread 1: lock 1;");
        lent.run(3);
        lent.setBase(1, 7);
        Check.dueText("a faulty one is lent to", Parks.facts(lent, 1), "7 7");
    }

    private static void whoGetsALock() {
        PermitPark park = Parks.of("thread 9: lock 0, nap 9, unlock 0, park; thread 4: lock 0, run 9;"
            + "thread 3: lock 0, run 9; thread 4: lock 0, run 9; thread 2: lock 1, lock 0, run 9; thread 1: lock 1;");
        park.run(8);
        Check.dueText("state", Parks.facts(park, 2), "1 2 2 2 2 2");
        Check.due("first", park.lock(0, 1), 1);
        Check.due("second", park.lock(0, 2), 3);
        park.setBase(5, 9);
        Check.due("priority lent on", park.thread(4, 1), 9);
        park.save(0);
        park.run(4);
        Check.due("the one with the greatest priority", park.lock(0, 0), 4);
        Check.due("lock(0, 1)", park.lock(0, 1), 1);
        park.restore(0);
        park.set(1, 0);
        park.run(4);
        Check.due("without lending, of several the first", park.lock(0, 0), 1);
        park.restore(0);
        park.setBase(5, 4);
        park.run(4);
        Check.due("of several the one blocked first", park.lock(0, 0), 1);
        Check.due("lock(0, 1)", park.lock(0, 1), 3);
        Check.due("lock(0, 2)", park.lock(0, 2), 2);
        Check.due("lock(0, 3)", park.lock(0, 3), 4);
        Check.due("lock(0, 4)", park.lock(0, 4), -1);
        park.restore(0);
        park.setBase(3, 5);
        park.run(4);
        Check.due("not the first", park.lock(0, 0), 4);
    }

    private static void locksOfDone() {
        PermitPark park = Parks.of("thread 9: lock 5, lock 1, lock 3, nap 4, run 1; thread 8: lock 3, run 1;"
            + "thread 7: lock 1, run 1;");
        park.run(6);
        Check.due("locks", park.thread(0, 9), 42);
        park.run(2);
        Check.dueText("log", Parks.log(park, 6), "7.1.0.2 7.5.0.0 7.4.0.1 7.3.2.1 7.4.0.3 7.3.1.3 7.4.0.5");
        Check.dueText("place", Parks.facts(park, 3), "5 1 1");
        Check.due("locks", park.count(11), 10);
    }

    private static void chainOfEnds() {
        // The thread 0 gives up 0 to 1, which ends and gives up 0 and 4 ahead of what 0 gives up next.
        PermitPark park = Parks.of("thread 9: lock 0, lock 2, nap 6, unlock 0; thread 8: lock 4, lock 0;"
            + "thread 7: lock 4; thread 6: lock 0, run 1; thread 5: lock 2;");
        park.run(8);
        Check.dueText("state", Parks.facts(park, 2), "1 2 2 2 2");
        Check.due("run(1)", park.run(1), 4);
        Check.dueText("log", Parks.log(park, 8), "8.1.0.2 8.4.0.0 8.3.1.0 8.5.1.0 8.4.1.0 8.3.3.0 8.4.1.4 8.3.2.4"
            + " 8.5.2.0 8.4.2.4 8.5.0.0 8.4.0.2 8.3.4.2 8.5.4.0 8.4.4.2");
        Check.dueText("state", Parks.facts(park, 2), "3 3 3 0 3");
    }

    private static void whoRuns() {
        PermitPark park = Parks.of("thread 3: run 20; thread 3: run 20; thread 3: run 20;");
        int[] due = {0, 1, 2, 0, 1, 2};
        for (int thread : due) {
            Check.due("next()", park.next(), thread);
            park.run(1);
        }
        Check.due("addThread", park.addThread(3, 0, 20), 3);
        Check.due("one that never ran", park.next(), 3);
        park.run(1);
        Check.due("the one that ran longest ago", park.next(), 0);
        park.setBase(1, 4);
        Check.due("the greatest priority", park.next(), 1);
        park.run(4);
        Check.dueText("ticks", Parks.facts(park, 10), "2 6 2 1");
        park.setBase(1, 3);
        Check.due("longest ago", park.next(), 0);
        park.setBase(0, 2);
        Check.due("longest ago", park.next(), 2);
        park.setBase(2, 2);
        Check.due("longest ago", park.next(), 3);
    }

    private static void lending() {
        PermitPark park = Parks.of("thread 1: lock 0, run 20; thread 2: nap 1, lock 1, lock 0, run 1;"
            + "thread 3: nap 4, lock 1; thread 2: nap 3, run 20;");
        park.setBase(0, 9);
        park.run(1);
        park.setBase(0, 1);
        park.run(8);
        Check.dueText("state", Parks.facts(park, 2), "0 2 2 0");
        Check.dueText("priority", Parks.facts(park, 1), "3 3 3 2");
        Check.due("next()", park.next(), 0);
        PermitPark first = Parks.of("thread 9: nap 3, lock 0; thread 1: lock 0, run 9;");
        first.run(4);
        Check.dueText("lent by the thread 0", Parks.facts(first, 1), "9 9");
        park.setBase(2, 7);
        Check.dueText("lent on", Parks.facts(park, 1), "7 7 7 2");
        park.set(1, 0);
        Check.dueText("no lending", Parks.facts(park, 1), "1 2 7 2");
        Check.due("next()", park.next(), 3);
        park.set(1, 1);
        park.setBase(0, 9);
        Check.dueText("its own BASE is greater", Parks.facts(park, 1), "9 7 7 2");
    }

    private static void ring() {
        PermitPark park = Parks.of("thread 2: lock 0, lock 1; thread 2: lock 1, lock 2; thread 2: lock 2, lock 0;"
            + "thread 1: lock 1;");
        park.run(7);
        Check.dueText("state", Parks.facts(park, 2), "2 2 2 2");
        Check.dueText("priority", Parks.facts(park, 1), "2 2 2 1");
        park.setBase(1, 5);
        Check.dueText("the greatest of all", Parks.facts(park, 1), "5 5 5 1");
        park.setBase(3, 8);
        Check.dueText("lent to the ring", Parks.facts(park, 1), "8 8 8 8");
        park.set(1, 0);
        Check.dueText("no lending", Parks.facts(park, 1), "2 5 2 8");
    }

    private static void timeouts() {
        PermitPark park = Parks.of("thread 1: nap 4; thread 2: nap 3; thread 3: nap 2; thread 4: nap 1; thread 9: nap 3;");
        park.run(5);
        Check.dueText("log", Parks.log(park),
            "0.0.4.3 1.0.3.2 2.1.3.2 2.5.3.0 2.0.2.4 3.1.4.2 3.5.4.0 3.0.1.6 4.1.2.2 4.5.2.0 4.0.0.8");
        PermitPark same = Parks.of("thread 1: lock 0, nap 6; thread 2: lock 1, nap 5; thread 3: lock 2, nap 3;");
        same.run(6);
        Check.dueText("deadlines", Parks.facts(same, 7), "11 8 -1");
        same.run(3);
        Check.dueText("log", Parks.log(same, 9), "8.1.1.2 8.5.1.0 8.4.1.1");
        PermitPark several = Parks.of("thread 4: nap 3; thread 4: nap 2; thread 4: nap 1;");
        several.run(4);
        Check.dueText("by ascending numbers", Parks.log(several, 3),
            "3.1.0.2 3.5.0.0 3.1.1.2 3.5.1.0 3.1.2.2 3.5.2.0");
    }

    private static void spurious() {
        PermitPark park = Parks.of("thread 1: park, park; thread 1: nap 9; thread 1: await 1; set 0 500; seed 0;");
        // The draws: 12345 gives 345, then 1103 * 12345 + 12345 = 13628880, less 13 * 1000003 = 628841 gives 841.
        park.run(1);
        Check.due("nobody is parked, no draw", park.count(4), 0);
        park.run(1);
        Check.due("x", park.count(4), 12345);
        Check.dueText("log", Parks.log(park), "0.0.0.-1 1.1.0.3 1.0.1.10");
        park.run(1);
        Check.due("x", park.count(4), 628841);
        Check.due("cause", park.thread(0, 6), 3);
        Check.due("returns", park.thread(0, 15), 1);
        Check.dueText("log", Parks.log(park, 3), "2.0.2.-1");
        park.set(0, 0);
        park.run(3);
        Check.due("no draws", park.count(4), 628841);
        park.set(0, 1000);
        park.run(1);
        Check.due("all return", park.thread(1, 15) + park.thread(2, 15), 2);
        PermitPark ends = Parks.of("thread 3: lock 3, lock 1, park; thread 2: lock 2, nap 50; thread 1: lock 1;");
        ends.run(6);
        ends.set(0, 1000);
        ends.run(1);
        Check.dueText("each end ahead of the next return", Parks.log(ends, 6),
            "6.1.0.3 6.5.0.0 6.4.0.1 6.3.2.1 6.5.2.0 6.4.2.1 6.4.0.3 6.1.1.3 6.5.1.0 6.4.1.2");
        PermitPark edge = Parks.of("thread 1: park, run 1; set 0 345; seed 0;");
        edge.run(2);
        Check.due("345 is not less than 345", edge.thread(0, 2), 1);
        PermitPark less = Parks.of("thread 1: park, run 1; set 0 346; seed 0;");
        less.run(2);
        Check.due("345 is less than 346", less.thread(0, 2), 3);
        PermitPark timeout = Parks.of("thread 1: nap 1, run 1; set 0 1000;");
        timeout.run(2);
        Check.due("a timeout goes ahead", timeout.thread(0, 14), 1);
        Check.due("no draw for it", timeout.count(4), 1);
    }
}
