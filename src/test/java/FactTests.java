/** Promises 13 to 19: what there is. */
final class FactTests {
    private static final Class<? extends RuntimeException> INDEX = IndexOutOfBoundsException.class;
    private static final Class<? extends RuntimeException> ARGUMENT = IllegalArgumentException.class;
    private static final int[] FAR = {Integer.MIN_VALUE, Integer.MAX_VALUE};

    private FactTests() {
    }

    static void run() {
        Check.test("promise 13: count", FactTests::count);
        Check.test("promise 13: exceptions", FactTests::countExceptions);
        Check.test("promise 14: thread", FactTests::thread);
        Check.test("promise 14: the greatest priority in any tick", FactTests::greatest);
        Check.test("promise 14: exceptions", FactTests::threadExceptions);
        Check.test("promise 15: instruction", FactTests::instruction);
        Check.test("promise 16: lock", FactTests::lock);
        Check.test("promise 17: flag", FactTests::flag);
        Check.test("promise 18: event", FactTests::event);
        Check.test("promise 18: the log keeps 40", FactTests::fullLog);
        Check.test("promise 19: events", FactTests::events);
    }

    /** Seven threads, with all states at the time 9. */
    private static PermitPark seven() {
        PermitPark park = Parks.of("thread 9: lock 0, wake 3, wake 3, park; thread 8: lock 5, lock 0;"
            + "thread 7: unlock 1; thread 6: run 1; thread 5: steal 3; thread 4: run 20; thread 3: wake 2;"
            + "flag 1; flag 6; seed 9;");
        // The thread 0 has a wakeup merged and parks; 1 is blocked; 2 faulty; 3 done; 4 steals and is done; 5 runs.
        park.run(9);
        return park;
    }

    private static void count() {
        PermitPark park = seven();
        int[] due = {0, 1, 7, 9, 9, 2, 1, 1, 2, 1, 66, 33, 0, 9, 1, 0, 1, 0};
        for (int what = 0; what < due.length; what++) {
            Check.due("count(" + what + ")", park.count(what), due[what]);
        }
        park.wake(2);
        park.wake(3);
        Check.due("wasted", park.count(15), 2);
        park.run(22);
        Check.due("wasted by an instruction, too", park.count(15), 3);
        Check.due("idle ticks", park.count(12), 1);
        Check.due("time", park.count(3), 31);
        PermitPark telling = Parks.of("thread 1: park, tell 1, tell 1; thread 1: run 9;");
        telling.wake(0);
        telling.run(5);
        Check.due("told on", telling.count(17), 1);
        Check.due("merged", telling.count(14), 0);
    }

    private static void countExceptions() {
        PermitPark park = seven();
        for (int wrong : new int[] {-1, 18, FAR[0], FAR[1]}) {
            Check.dueThrow("count(" + wrong + ")", ARGUMENT, () -> park.count(wrong));
        }
    }

    private static void thread() {
        PermitPark park = seven();
        Check.dueText("BASE", Parks.facts(park, 0), "9 8 7 6 5 4 3");
        Check.dueText("priority", Parks.facts(park, 1), "9 8 7 6 5 4 3");
        Check.dueText("state", Parks.facts(park, 2), "1 2 4 3 3 0 0");
        Check.dueText("place", Parks.facts(park, 3), "4 1 0 1 1 0 0");
        Check.dueText("permit", Parks.facts(park, 4), "0 0 0 0 1 0 0");
        Check.dueText("interrupt", Parks.facts(park, 5), "0 0 0 0 0 0 0");
        Check.dueText("cause", Parks.facts(park, 6), "0 0 0 0 0 0 0");
        Check.dueText("deadline", Parks.facts(park, 7), "-1 -1 -1 -1 -1 -1 -1");
        Check.dueText("blocked at", Parks.facts(park, 8), "-1 0 -1 -1 -1 -1 -1");
        Check.dueText("locks", Parks.facts(park, 9), "1 32 0 0 0 0 0");
        Check.dueText("ticks", Parks.facts(park, 10), "4 2 1 1 1 0 0");
        Check.dueText("latest tick", Parks.facts(park, 11), "3 5 6 7 8 -1 -1");
        Check.dueText("parks", Parks.facts(park, 12), "1 0 0 0 0 0 0");
        Check.dueText("instructions", Parks.facts(park, 18), "4 2 1 1 1 1 1");
        park.interrupt(1);
        Check.due("interrupt", park.thread(1, 5), 1);
        PermitPark causes = Parks.of("thread 1: nap 1, nap 9, park, park, nap 3;");
        causes.run(1);
        Check.due("deadline", causes.thread(0, 7), 1);
        causes.run(1);
        Check.due("deadline", causes.thread(0, 7), 10);
        Check.due("cause", causes.thread(0, 6), 2);
        causes.wake(0);
        Check.due("cause", causes.thread(0, 6), 1);
        Check.due("deadline", causes.thread(0, 7), -1);
        causes.run(1);
        causes.rouse(0);
        Check.due("cause", causes.thread(0, 6), 3);
        causes.run(1);
        causes.interrupt(0);
        Check.due("cause", causes.thread(0, 6), 4);
        causes.run(4);
        Check.due("parks", causes.thread(0, 12), 5);
        Check.due("wakeups", causes.thread(0, 13), 1);
        Check.due("timeouts", causes.thread(0, 14), 2);
        Check.due("without a cause", causes.thread(0, 15), 1);
        Check.due("interrupts", causes.thread(0, 16), 1);
        Check.due("state", causes.thread(0, 2), 3);
    }

    private static void greatest() {
        PermitPark park = Parks.of("thread 2: lock 0, run 3; thread 1: run 20;");
        park.run(1);
        park.addThread(7, 9, 0);
        Check.dueText("greatest", Parks.facts(park, 17), "2 1 7");
        park.run(1);
        Check.dueText("only lent at the end of the tick", Parks.facts(park, 17), "2 1 7");
        Check.due("priority", park.thread(0, 1), 7);
        park.run(1);
        Check.dueText("greatest", Parks.facts(park, 17), "7 1 7");
        park.setBase(1, 9);
        Check.due("not ahead of a tick", park.thread(1, 17), 1);
        park.setBase(1, 1);
        park.run(5);
        Check.dueText("state", Parks.facts(park, 2), "3 0 3");
        Check.dueText("greatest", Parks.facts(park, 17), "7 1 7");
        park.setBase(0, 9);
        park.run(1);
        Check.due("in whatever state", park.thread(0, 17), 9);
        park.setBase(0, 1);
        park.run(1);
        Check.due("stays", park.thread(0, 17), 9);
        // Ahead of step 1: the thread 1 is blocked at its beginning and lends, though it gets the lock in the tick.
        PermitPark timeout = Parks.of("thread 1: lock 0, nap 2; thread 5: run 1, lock 0, run 1;");
        timeout.setBase(1, 1);
        timeout.run(3);
        Check.dueText("state", Parks.facts(timeout, 2), "1 0");
        timeout.run(1);
        Check.dueText("state", Parks.facts(timeout, 2), "1 2");
        timeout.setBase(1, 6);
        timeout.run(1);
        Check.dueText("state", Parks.facts(timeout, 2), "3 3");
        Check.dueText("greatest", Parks.facts(timeout, 17), "6 6");
    }

    private static void threadExceptions() {
        PermitPark park = seven();
        for (int wrong : new int[] {-1, 19, FAR[0], FAR[1]}) {
            Check.dueThrow("thread(0, " + wrong + ")", ARGUMENT, () -> park.thread(0, wrong));
            Check.dueThrow("thread(7, " + wrong + ")", INDEX, () -> park.thread(7, wrong));
        }
        for (int wrong : new int[] {-1, 7, 10, FAR[0], FAR[1]}) {
            Check.dueThrow("thread(" + wrong + ", 0)", INDEX, () -> park.thread(wrong, 0));
        }
    }

    private static void instruction() {
        PermitPark park = Parks.of("thread 9: lock 4, park, run 20; thread 8: tell 7;");
        Check.due("instruction(0, 0, 0)", park.instruction(0, 0, 0), 9);
        Check.due("instruction(0, 0, 1)", park.instruction(0, 0, 1), 4);
        Check.due("instruction(0, 1, 0)", park.instruction(0, 1, 0), 1);
        Check.due("instruction(0, 1, 1)", park.instruction(0, 1, 1), 0);
        Check.due("instruction(0, 2, 1)", park.instruction(0, 2, 1), 20);
        Check.due("instruction(1, 0, 0)", park.instruction(1, 0, 0), 7);
        for (int wrong : new int[] {-1, 2, FAR[0], FAR[1]}) {
            Check.dueThrow("instruction(" + wrong + ", 0, 0)", INDEX, () -> park.instruction(wrong, 0, 0));
            Check.dueThrow("instruction(0, 0, " + wrong + ")", ARGUMENT, () -> park.instruction(0, 0, wrong));
            Check.dueThrow("instruction(1, 1, " + wrong + ")", INDEX, () -> park.instruction(1, 1, wrong));
        }
        for (int wrong : new int[] {-1, 3, 16, FAR[0], FAR[1]}) {
            Check.dueThrow("instruction(0, " + wrong + ", 0)", INDEX, () -> park.instruction(0, wrong, 0));
        }
    }

    private static void lock() {
        PermitPark park = Parks.of("thread 9: lock 5, nap 10; thread 3: lock 5; thread 5: lock 5; thread 4: lock 5;");
        park.run(5);
        int[] due = {0, 2, 3, 1, -1, -1};
        for (int index = 0; index < due.length; index++) {
            Check.due("lock(5, " + index + ")", park.lock(5, index), due[index]);
        }
        Check.due("lock(5, greatest)", park.lock(5, Integer.MAX_VALUE), -1);
        Check.due("lock(4, 0)", park.lock(4, 0), -1);
        Check.due("lock(4, 1)", park.lock(4, 1), -1);
        for (int wrong : new int[] {-1, 6, FAR[0], FAR[1]}) {
            Check.dueThrow("lock(" + wrong + ", 0)", INDEX, () -> park.lock(wrong, 0));
        }
        for (int wrong : new int[] {-1, FAR[0]}) {
            Check.dueThrow("lock(0, " + wrong + ")", INDEX, () -> park.lock(0, wrong));
        }
        park.setBase(3, 8);
        park.rouse(0);
        // The thread 0 is done; the lock goes to 3, which is done by that, then to 2 and to 1.
        Check.dueText("log", Parks.log(park, 5),
            "5.1.0.3 5.5.0.0 5.4.0.5 5.3.3.5 5.5.3.0 5.4.3.5 5.3.2.5 5.5.2.0 5.4.2.5 5.3.1.5 5.5.1.0 5.4.1.5");
        Check.due("lock(5, 0)", park.lock(5, 0), -1);
        Check.due("lock(5, 1)", park.lock(5, 1), -1);
    }

    private static void flag() {
        PermitPark park = Parks.of("flag 0; flag 7;");
        Check.due("flag(0)", park.flag(0), true);
        Check.due("flag(1)", park.flag(1), false);
        Check.due("flag(7)", park.flag(7), true);
        for (int wrong : new int[] {-1, 8, 32, FAR[0], FAR[1]}) {
            Check.dueThrow("flag(" + wrong + ")", INDEX, () -> park.flag(wrong) ? 1 : 0);
        }
    }

    private static void event() {
        PermitPark park = seven();
        Check.dueText("log", Parks.log(park),
            "0.3.0.0 2.7.3.0 3.0.0.-1 4.3.1.5 5.2.1.0 6.6.2.0 7.5.3.0 8.8.4.3 8.5.4.0");
        for (int wrong : new int[] {-1, 4, FAR[0], FAR[1]}) {
            Check.dueThrow("event(0, " + wrong + ")", ARGUMENT, () -> park.event(0, wrong));
            Check.dueThrow("event(9, " + wrong + ")", INDEX, () -> park.event(9, wrong));
        }
        for (int wrong : new int[] {-1, 9, 40, FAR[0], FAR[1]}) {
            Check.dueThrow("event(" + wrong + ", 0)", INDEX, () -> park.event(wrong, 0));
        }
        PermitPark telling = Parks.of("thread 1: park, tell 0;");
        telling.wake(0);
        telling.run(2);
        telling.wake(0);
        Check.dueText("log of one that tells itself", Parks.log(telling), "1.9.0.0 1.5.0.0");
        Check.due("wasted", telling.count(15), 1);
    }

    private static void fullLog() {
        PermitPark park = Parks.of("thread 1: run 20, run 20, run 20;");
        park.wake(0);
        for (int i = 1; i <= 45; i++) {
            park.run(1);
            park.wake(0);
            int kept = Math.min(40, i);
            Check.due("events", park.count(13), kept);
            Check.due("time of the first one", park.event(0, 0), i - kept + 1);
            Check.due("time of the last one", park.event(kept - 1, 0), i);
            Check.due("events(7, 0)", park.events(7, 0), kept);
        }
        Check.dueThrow("event(40, 0)", INDEX, () -> park.event(40, 0));
        Check.due("merged", park.count(14), 45);
        park.save(0);
        park.wake(0);
        Check.due("time of the last one", park.event(39, 0), 45);
        park.restore(0);
        Check.due("time of the first one", park.event(0, 0), 6);
    }

    private static void events() {
        PermitPark park = seven();
        int[] due = {1, 0, 1, 2, 0, 2, 1, 1, 1, 0};
        for (int kind = 0; kind < due.length; kind++) {
            Check.due("events(" + kind + ", NONE)", park.events(kind, -1), due[kind]);
        }
        Check.due("events(3, 0)", park.events(3, 0), 1);
        Check.due("events(3, 1)", park.events(3, 1), 1);
        Check.due("events(3, 2)", park.events(3, 2), 0);
        Check.due("events(7, 3)", park.events(7, 3), 1);
        Check.due("events(7, 0)", park.events(7, 0), 0);
        Check.due("events(8, 4)", park.events(8, 4), 1);
        for (int wrong : new int[] {-1, 10, FAR[0], FAR[1]}) {
            Check.dueThrow("events(" + wrong + ", 0)", ARGUMENT, () -> park.events(wrong, 0));
            Check.dueThrow("events(" + wrong + ", NONE)", ARGUMENT, () -> park.events(wrong, -1));
            Check.dueThrow("events(" + wrong + ", 7)", INDEX, () -> park.events(wrong, 7));
        }
        for (int wrong : new int[] {-2, 7, FAR[0], FAR[1]}) {
            Check.dueThrow("events(0, " + wrong + ")", INDEX, () -> park.events(0, wrong));
        }
    }
}
