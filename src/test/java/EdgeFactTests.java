/** Boundary cases of promises 13 to 19: what there is; a test for each sentence. */
final class EdgeFactTests {
    private EdgeFactTests() {
    }

    static void run() {
        Check.test("promise 13: what 0 to 17", EdgeFactTests::countRange);
        Check.test("promise 13: flags that are on, as a set", EdgeFactTests::flagSet);
        Check.test("promise 13: locks that are held, as a set", EdgeFactTests::lockSet);
        Check.test("promise 13: threads in each state, 0 to 10", EdgeFactTests::stateCounts);
        Check.test("promise 13: idle ticks", EdgeFactTests::idleTicks);
        Check.test("promise 13: wakeups that were merged, wasted, told on, permits that were stolen", EdgeFactTests::counters);
        Check.test("promise 14: a thread, what 0 to 18", EdgeFactTests::threadRange);
        Check.test("promise 14: 7, NONE without a deadline", EdgeFactTests::deadline);
        Check.test("promise 14: 8, NONE if it is not blocked", EdgeFactTests::blockedAt);
        Check.test("promise 14: 9, the locks that it holds, as a set", EdgeFactTests::heldLocks);
        Check.test("promise 14: 11, NONE if it never ran", EdgeFactTests::latestTick);
        Check.test("promise 14: 12 to 16, how often", EdgeFactTests::howOften);
        Check.test("promise 14: 17, BASE before the first tick behind adding it", EdgeFactTests::greatestAheadOfTicks);
        Check.test("promise 14: 17, as it was at the beginning of a tick, ahead of step 1", EdgeFactTests::greatestAtBeginning);
        Check.test("promise 14: 17, in whatever state", EdgeFactTests::greatestInAllStates);
        Check.test("promise 14: 18, the number of its instructions, 1 to 16", EdgeFactTests::instructions);
        Check.test("promise 15: index, 0 for its first instruction", EdgeFactTests::instructionIndex);
        Check.test("promise 15: what 0 or 1", EdgeFactTests::instructionWhat);
        Check.test("promise 15: the exceptions in their order", EdgeFactTests::instructionOrder);
        Check.test("promise 16: lock 0 to 5", EdgeFactTests::lockRange);
        Check.test("promise 16: or index is negative", EdgeFactTests::lockIndex);
        Check.test("promise 16: in the order in which they were blocked", EdgeFactTests::lockOrder);
        Check.test("promise 16: 9 threads are blocked at a lock", EdgeFactTests::fullLock);
        Check.test("promise 17: flag 0 to 7", EdgeFactTests::flagRange);
        Check.test("promise 18: an event of the log, what 0 to 3", EdgeFactTests::eventRange);
        Check.test("promise 18: the exceptions in their order", EdgeFactTests::eventOrder);
        Check.test("terms: the latest 40 events are kept", EdgeFactTests::latestEvents);
        Check.test("promise 19: kind 0 to 9", EdgeFactTests::kindRange);
        Check.test("promise 19: a thread, or NONE for all", EdgeFactTests::eventsThread);
        Check.test("promise 19: only events that are in the log", EdgeFactTests::eventsInLog);
    }

    // ---- promise 13

    private static void countRange() {
        int[] due = {30, 1, 4, 8, 0, 1, 1, 1, 0, 1, 68, 1, 0, 7, 1, 0, 0, 0};
        PermitPark park = Edges.rich();
        for (int what = 0; what <= 17; what++) {
            if (what != 4) {
                Check.due("count(" + what + ")", park.count(what), due[what]);
            }
        }
        for (int what : new int[] {-1, 18, 19, Edges.LEAST, Edges.MOST}) {
            Edges.refused("count(" + what + ")", Edges.ARGUMENT, one -> one.count(what));
        }
        Edges.unchanged("count(0)", Edges::rich, one -> one.count(0));
    }

    private static void flagSet() {
        PermitPark park = new PermitPark();
        Check.due("none", park.count(10), 0);
        int due = 0;
        for (int flag = 7; flag >= 0; flag--) {
            park.setFlag(flag, true);
            due |= 1 << flag;
            Check.due("flags", park.count(10), due);
        }
        Check.due("all", park.count(10), 255);
    }

    private static void lockSet() {
        PermitPark park = Parks.of("thread 1: lock 5, lock 4, lock 3, lock 2, lock 1, lock 0, run 1;");
        int[] due = {32, 48, 56, 60, 62, 63};
        Check.due("none", park.count(11), 0);
        for (int held : due) {
            park.run(1);
            Check.due("locks", park.count(11), held);
        }
        Check.due("run(1)", park.run(1), 1);
        Check.due("none", park.count(11), 0);
    }

    private static void stateCounts() {
        PermitPark park = Parks.of("thread 1:unlock 0;".repeat(10));
        Check.due("all ready", park.count(5), 10);
        park.run(10);
        Check.due("all faulty", park.count(9), 10);
        Check.due("none ready", park.count(5), 0);
        PermitPark done = Parks.of("thread 1:park;".repeat(10));
        done.run(10);
        Check.due("all parked", done.count(6), 10);
        for (int i = 0; i < 10; i++) {
            done.wake(i);
        }
        Check.due("none parked", done.count(6), 0);
        Check.due("all done", done.count(8), 10);
        PermitPark blocked = Parks.of("thread 9:lock 0,nap 50;" + "thread 1:lock 0;".repeat(9));
        blocked.run(11);
        Check.due("9 blocked", blocked.count(7), 9);
    }

    private static void idleTicks() {
        PermitPark park = Parks.of("thread 1: run 2, nap 3;");
        int[] due = {0, 0, 0, 1, 2, 3, 4};
        for (int idle : due) {
            park.run(1);
            Check.due("idle ticks", park.count(12), idle);
        }
    }

    private static void counters() {
        PermitPark park = Parks.of("thread 9: park, tell 1, steal 1, wake 2, wake 0, wake 0; thread 1: run 9;"
            + "thread 9: run 1;");
        park.wake(0);
        int[][] due = {{0, 0, 0, 0}, {0, 0, 0, 0}, {0, 0, 0, 1}, {0, 0, 1, 1}, {0, 1, 1, 1}, {1, 1, 1, 1}, {2, 1, 1, 1}};
        for (int[] counts : due) {
            park.run(1);
            for (int i = 0; i < 4; i++) {
                Check.due("count(" + (14 + i) + ") at " + park.count(3), park.count(14 + i), counts[i]);
            }
        }
    }

    // ---- promise 14

    private static void threadRange() {
        for (int thread = 0; thread < 4; thread++) {
            Check.due("BASE", Edges.rich().thread(thread, 0), new int[] {5, 4, 3, 9}[thread]);
            Check.due("instructions", Edges.rich().thread(thread, 18), new int[] {3, 3, 3, 1}[thread]);
        }
        for (int what : new int[] {-1, 19, Edges.LEAST, Edges.MOST}) {
            Edges.refused("thread(0, " + what + ")", Edges.ARGUMENT, park -> park.thread(0, what));
        }
        for (int thread : new int[] {-1, 4, 9, 10, Edges.LEAST, Edges.MOST}) {
            Edges.refused("thread(" + thread + ", 0)", Edges.INDEX, park -> park.thread(thread, 0));
            Edges.refused("thread(" + thread + ", 19)", Edges.INDEX, park -> park.thread(thread, 19));
            Edges.refused("thread(" + thread + ", -1)", Edges.INDEX, park -> park.thread(thread, -1));
        }
    }

    private static void deadline() {
        PermitPark park = Parks.of("thread 1: nap 1, park, await 0;");
        Check.due("at first", park.thread(0, 7), -1);
        park.run(1);
        Check.due("of a nap", park.thread(0, 7), 1);
        park.run(1);
        Check.due("parked without one", park.thread(0, 7), -1);
        Check.due("state", park.thread(0, 2), 1);
        park.wake(0);
        Check.due("behind a return", park.thread(0, 7), -1);
        park.run(1);
        Check.due("awaiting", park.thread(0, 7), -1);
    }

    private static void blockedAt() {
        PermitPark park = Parks.of("thread 9: lock 0, lock 5, nap 3; thread 8: lock 0, run 1; thread 7: lock 5, run 1;");
        Check.dueText("at first", Parks.facts(park, 8), "-1 -1 -1");
        park.run(5);
        Check.dueText("blocked", Parks.facts(park, 8), "-1 0 5");
        park.run(1);
        Check.dueText("not any more", Parks.facts(park, 8), "-1 -1 -1");
    }

    private static void heldLocks() {
        PermitPark park = Parks.of("thread 2: lock 0, lock 5, unlock 0, run 1; thread 1: lock 1,lock 2;");
        int[] due = {0, 1, 33, 32, 0};
        for (int held : due) {
            Check.due("locks", park.thread(0, 9), held);
            Check.due("locks of the other", park.thread(1, 9), 0);
            park.run(1);
        }
        Check.due("locks of the other", park.thread(1, 9), 2);
    }

    private static void latestTick() {
        PermitPark park = Parks.of("thread 1: run 1, nap 3, run 1;");
        Check.due("never", park.thread(0, 11), -1);
        Check.due("ticks", park.thread(0, 10), 0);
        int[] due = {0, 1, 1, 1, 4, 4};
        for (int tick : due) {
            park.run(1);
            Check.due("at last", park.thread(0, 11), tick);
        }
        Check.due("ticks", park.thread(0, 10), 3);
    }

    /** What goes on at once is neither parked nor returned. */
    private static void howOften() {
        PermitPark park = Parks.of("thread 1: park, park, park, nap 1, park, park, park;");
        park.wake(0);
        park.interrupt(0);
        park.run(2);
        Check.dueText("at once", told(park), "0 0 0 0 0");
        park.run(1);
        park.wake(0);
        Check.dueText("woken", told(park), "1 1 0 0 0");
        park.run(2);
        Check.dueText("in time", told(park), "3 1 1 0 0");
        park.rouse(0);
        Check.dueText("without a cause", told(park), "3 1 1 1 0");
        park.run(1);
        park.interrupt(0);
        Check.dueText("interrupted", told(park), "4 1 1 1 1");
        park.run(1);
        park.interrupt(0);
        Check.dueText("interrupted again", told(park), "5 1 1 1 2");
        park.interrupt(0);
        park.wake(0);
        Check.dueText("done", told(park), "5 1 1 1 2");
    }

    private static String told(PermitPark park) {
        StringBuilder told = new StringBuilder();
        for (int what = 12; what <= 16; what++) {
            told.append(what == 12 ? "" : " ").append(park.thread(0, what));
        }
        return told.toString();
    }

    private static void greatestAheadOfTicks() {
        PermitPark park = Parks.of("thread 5: run 9;");
        Check.due("BASE", park.thread(0, 17), 5);
        park.setBase(0, 2);
        Check.due("the present BASE", park.thread(0, 17), 2);
        park.run(1);
        park.setBase(0, 1);
        Check.due("of the tick", park.thread(0, 17), 2);
        park.setBase(0, 9);
        Check.due("of the tick, not yet of the next one", park.thread(0, 17), 2);
        park.run(1);
        Check.due("of the next one", park.thread(0, 17), 9);
        park.addThread(3, 0, 1);
        Check.due("BASE of a new one", park.thread(1, 17), 3);
        park.setBase(1, 8);
        Check.due("BASE of a new one", park.thread(1, 17), 8);
    }

    private static void greatestAtBeginning() {
        // The thread 1 is blocked in the tick 2; what it lends counts from the beginning of the tick 3 on.
        PermitPark park = Parks.of("thread 1: lock 0, run 2, unlock 0; thread 1: nap 1, lock 0;");
        park.run(2);
        park.setBase(1, 6);
        park.run(1);
        Check.dueText("state", Parks.facts(park, 2), "0 2");
        Check.due("priority", park.thread(0, 1), 6);
        Check.due("lent within a tick only", park.thread(0, 17), 1);
        park.run(1);
        Check.due("at the beginning of a tick", park.thread(0, 17), 6);
        // Ahead of step 1: what a timeout ends in the same tick counts.
        PermitPark timeout = Parks.of("thread 9: lock 0, nap 3; thread 8: lock 0, run 1;");
        timeout.run(3);
        timeout.setBase(0, 1);
        Check.due("of earlier ticks", timeout.thread(0, 17), 9);
        PermitPark ends = Parks.of("thread 2: lock 0, nap 2; thread 1: lock 0, run 1;");
        ends.run(3);
        Check.dueText("state", Parks.facts(ends, 2), "1 2");
        ends.setBase(1, 7);
        ends.run(1);
        Check.dueText("state", Parks.facts(ends, 2), "3 3");
        Check.dueText("greatest", Parks.facts(ends, 17), "7 7");
    }

    private static void greatestInAllStates() {
        PermitPark park = Parks.of("thread 5: lock 0, park; thread 4: lock 0; thread 3: unlock 1; thread 2: run 1;");
        park.run(5);
        Check.dueText("state", Parks.facts(park, 2), "1 2 4 3");
        for (int thread = 3; thread >= 0; thread--) {
            park.setBase(thread, 6 + thread);
            park.run(1);
            park.setBase(thread, 1);
        }
        Check.dueText("greatest", Parks.facts(park, 17), "7 7 8 9");
        Check.dueText("ran before", Parks.facts(park, 11), "1 2 3 4");
    }

    private static void instructions() {
        PermitPark park = Parks.of("thread 1:park;thread 1:park" + ",park".repeat(15) + ";");
        Check.dueText("instructions", Parks.facts(park, 18), "1 16");
        park.addInstruction(0, 1, 0);
        Check.dueText("instructions", Parks.facts(park, 18), "2 16");
    }

    // ---- promises 15 to 17

    private static void instructionIndex() {
        PermitPark park = Parks.of("thread 1:nap 200;thread 1:lock 5" + ",wake 9".repeat(14) + ",run 20;");
        Check.due("the only one", park.instruction(0, 0, 1), 200);
        Check.due("the first one", park.instruction(1, 0, 0), 9);
        Check.due("the second one", park.instruction(1, 1, 0), 6);
        Check.due("the last one", park.instruction(1, 15, 1), 20);
        Edges.Maker maker = () -> Parks.of("thread 1:nap 200;thread 1:lock 5" + ",wake 9".repeat(14) + ",run 20;");
        for (int index : new int[] {-1, 16, Edges.LEAST, Edges.MOST}) {
            Edges.refused("instruction(1, " + index + ", 0)", Edges.INDEX, maker, one -> one.instruction(1, index, 0));
        }
        for (int index : new int[] {-1, 1, 15, 16}) {
            Edges.refused("instruction(0, " + index + ", 0)", Edges.INDEX, maker, one -> one.instruction(0, index, 0));
        }
    }

    private static void instructionWhat() {
        Check.due("instruction(1, 1, 0)", Edges.rich().instruction(1, 1, 0), 2);
        Check.due("instruction(1, 1, 1)", Edges.rich().instruction(1, 1, 1), 30);
        for (int what : new int[] {-1, 2, Edges.LEAST, Edges.MOST}) {
            Edges.refused("instruction(0, 0, " + what + ")", Edges.ARGUMENT, park -> park.instruction(0, 0, what));
        }
    }

    private static void instructionOrder() {
        for (int thread : new int[] {-1, 4, 10, Edges.LEAST, Edges.MOST}) {
            Edges.refused("instruction(" + thread + ", 0, 0)", Edges.INDEX, park -> park.instruction(thread, 0, 0));
            Edges.refused("instruction(" + thread + ", 0, 2)", Edges.INDEX, park -> park.instruction(thread, 0, 2));
        }
        Edges.refused("instruction(0, 3, 2)", Edges.INDEX, park -> park.instruction(0, 3, 2));
        Edges.refused("instruction(0, -1, -1)", Edges.INDEX, park -> park.instruction(0, -1, -1));
        Edges.refused("instruction(0, 2, 2)", Edges.ARGUMENT, park -> park.instruction(0, 2, 2));
    }

    private static void lockRange() {
        PermitPark park = Parks.of("thread 1: lock 0, lock 5, park;");
        park.run(2);
        int[] due = {0, -1, -1, -1, -1, 0};
        for (int lock = 0; lock <= 5; lock++) {
            Check.due("lock(" + lock + ", 0)", park.lock(lock, 0), due[lock]);
        }
        for (int lock : new int[] {-1, 6, Edges.LEAST, Edges.MOST}) {
            Edges.refused("lock(" + lock + ", 0)", Edges.INDEX, one -> one.lock(lock, 0));
            Edges.refused("lock(" + lock + ", -1)", Edges.INDEX, one -> one.lock(lock, -1));
        }
    }

    private static void lockIndex() {
        PermitPark park = Edges.rich();
        Check.due("lock(0, 0)", park.lock(0, 0), 1);
        Check.due("lock(0, 1)", park.lock(0, 1), 0);
        for (int index : new int[] {2, 3, 9, 10, 11, 60, Edges.MOST}) {
            Check.due("lock(0, " + index + ")", park.lock(0, index), -1);
            Check.due("lock(5, " + index + ")", park.lock(5, index), -1);
        }
        for (int index : new int[] {-1, -2, Edges.LEAST}) {
            Edges.refused("lock(0, " + index + ")", Edges.INDEX, one -> one.lock(0, index));
            Edges.refused("lock(5, " + index + ")", Edges.INDEX, one -> one.lock(5, index));
        }
    }

    private static void lockOrder() {
        PermitPark park = Parks.of("thread 9: lock 2, nap 9; thread 1: lock 2, run 1; thread 3: lock 2, run 1;"
            + "thread 2: lock 2, run 1;");
        park.run(5);
        int[] due = {0, 2, 3, 1, -1};
        for (int index = 0; index < due.length; index++) {
            Check.due("lock(2, " + index + ")", park.lock(2, index), due[index]);
        }
        park.setBase(3, 9);
        Check.due("a new BASE does not change it", park.lock(2, 1), 2);
        park.wake(0);
        int[] then = {3, 2, 1, -1};
        for (int index = 0; index < then.length; index++) {
            Check.due("lock(2, " + index + ")", park.lock(2, index), then[index]);
        }
    }

    private static void fullLock() {
        PermitPark park = Parks.of("thread 9:lock 5,nap 20;" + "thread 1:lock 5,run 1;".repeat(9));
        park.run(11);
        for (int index = 0; index <= 9; index++) {
            Check.due("lock(5, " + index + ")", park.lock(5, index), index);
        }
        Check.due("lock(5, 10)", park.lock(5, 10), -1);
        Check.due("lock(4, 1)", park.lock(4, 1), -1);
        park.wake(0);
        Check.due("lock(5, 0)", park.lock(5, 0), 1);
        Check.due("lock(5, 8)", park.lock(5, 8), 9);
        Check.due("lock(5, 9)", park.lock(5, 9), -1);
        Check.due("run(9)", park.run(9), 9);
        Check.due("locks", park.count(11), 0);
    }

    private static void flagRange() {
        PermitPark park = Parks.of("flag 0;flag 7;");
        for (int flag = 0; flag <= 7; flag++) {
            Check.due("flag(" + flag + ")", park.flag(flag), flag == 0 || flag == 7);
        }
        for (int flag : new int[] {-1, 8, 32, 39, Edges.LEAST, Edges.MOST}) {
            Edges.refused("flag(" + flag + ")", Edges.INDEX, one -> one.flag(flag) ? 1 : 0);
        }
    }

    // ---- promises 18 and 19

    /** An object with so many events, one at each time from 1 on. */
    private static PermitPark events(int number) {
        PermitPark park = Parks.of("thread 1: run 20, run 20, run 20, run 20;");
        park.wake(0);
        for (int i = 0; i < number; i++) {
            park.run(1);
            park.wake(0);
        }
        return park;
    }

    private static void eventRange() {
        PermitPark park = events(2);
        int[][] due = {{1, 7, 0, -1}, {2, 7, 0, -1}};
        for (int event = 0; event < 2; event++) {
            for (int what = 0; what <= 3; what++) {
                Check.due("event(" + event + ", " + what + ")", park.event(event, what), due[event][what]);
            }
        }
        for (int event : new int[] {-1, 2, 3, 39, 40, Edges.LEAST, Edges.MOST}) {
            Edges.refused("event(" + event + ", 0)", Edges.INDEX, () -> events(2), one -> one.event(event, 0));
        }
        for (int what : new int[] {-1, 4, Edges.LEAST, Edges.MOST}) {
            Edges.refused("event(1, " + what + ")", Edges.ARGUMENT, () -> events(2), one -> one.event(1, what));
        }
        Edges.refused("event(0, 0) of none", Edges.INDEX, PermitPark::new, one -> one.event(0, 0));
    }

    private static void eventOrder() {
        Edges.refused("event(2, 4)", Edges.INDEX, () -> events(2), park -> park.event(2, 4));
        Edges.refused("event(-1, -1)", Edges.INDEX, () -> events(2), park -> park.event(-1, -1));
        Edges.refused("event(0, 4) of none", Edges.INDEX, PermitPark::new, park -> park.event(0, 4));
    }

    private static void latestEvents() {
        int[] numbers = {1, 39, 40, 41, 79};
        for (int number : numbers) {
            PermitPark park = events(number);
            int kept = number < 40 ? number : 40;
            Check.due("events", park.count(13), kept);
            Check.due("time of the earliest", park.event(0, 0), number - kept + 1);
            Check.due("time of the latest", park.event(kept - 1, 0), number);
            Check.dueThrow("one behind the latest", Edges.INDEX, () -> park.event(kept, 0));
            for (int i = 1; i < kept; i++) {
                Check.due("the next one", park.event(i, 0), park.event(i - 1, 0) + 1);
            }
            Check.due("merged", park.count(14), number);
        }
    }

    private static void kindRange() {
        PermitPark park = Parks.of("thread 9: lock 0, park, tell 3, steal 1, unlock 0, unlock 0; thread 8: lock 0;"
            + "thread 1: run 5; thread 7: park;");
        park.wake(1);
        park.wake(1);
        park.run(4);
        park.wake(0);
        park.run(4);
        // 0 and 3 park and return; 1 is blocked; 0 is faulty; 1 and 3 are done.
        int[] due = {2, 2, 1, 2, 2, 2, 1, 1, 1, 1};
        for (int kind = 0; kind <= 9; kind++) {
            Check.due("events(" + kind + ", NONE)", park.events(kind, PermitPark.NONE), due[kind]);
        }
        for (int kind : new int[] {-1, 10, Edges.LEAST, Edges.MOST}) {
            Edges.refused("events(" + kind + ", NONE)", Edges.ARGUMENT, one -> one.events(kind, PermitPark.NONE));
            Edges.refused("events(" + kind + ", 0)", Edges.ARGUMENT, one -> one.events(kind, 0));
            Edges.refused("events(" + kind + ", 4)", Edges.INDEX, one -> one.events(kind, 4));
            Edges.refused("events(" + kind + ", -2)", Edges.INDEX, one -> one.events(kind, -2));
        }
    }

    private static void eventsThread() {
        PermitPark park = Edges.rich();
        Check.due("events(7, NONE)", park.events(7, PermitPark.NONE), 1);
        int[] due = {0, 0, 1, 0};
        for (int thread = 0; thread < 4; thread++) {
            Check.due("events(7, " + thread + ")", park.events(7, thread), due[thread]);
        }
        for (int thread : new int[] {-2, 4, 9, 10, Edges.LEAST, Edges.MOST}) {
            Edges.refused("events(7, " + thread + ")", Edges.INDEX, one -> one.events(7, thread));
        }
        Check.due("of no thread at all", new PermitPark().events(0, PermitPark.NONE), 0);
    }

    private static void eventsInLog() {
        PermitPark park = Parks.of("thread 9: nap 1, run 20, run 20;");
        park.run(2);
        park.wake(0);
        for (int i = 0; i < 38; i++) {
            park.wake(0);
        }
        Check.due("events", park.count(13), 40);
        Check.due("parked", park.events(0, 0), 1);
        park.wake(0);
        Check.due("parked, not kept any more", park.events(0, 0), 0);
        Check.due("returned", park.events(1, 0), 1);
        park.wake(0);
        Check.due("returned, not kept any more", park.events(1, PermitPark.NONE), 0);
        Check.due("merged", park.events(7, 0), 40);
    }
}
