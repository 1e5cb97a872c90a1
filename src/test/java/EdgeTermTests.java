/** Boundary cases of the terms: threads, priorities, parking, instructions, locks; a test for each sentence. */
final class EdgeTermTests {
    private EdgeTermTests() {
    }

    static void run() {
        Check.test("terms: at most 10 threads, numbered from 0, all run", EdgeTermTests::tenThreads);
        Check.test("terms: the greatest one of its BASE and of the priorities of all that are blocked",
            EdgeTermTests::greatestOfBoth);
        Check.test("terms: if LENDING is 1", EdgeTermTests::lendingOffAndOn);
        Check.test("terms: so what is lent is lent on, over the longest row", EdgeTermTests::longestRow);
        Check.test("terms: in a ring of 2 all have the greatest one", EdgeTermTests::ringOfTwo);
        Check.test("terms: in a ring of 6 all have the greatest one", EdgeTermTests::ringOfSix);
        Check.test("terms: two rings, and one that lends to a ring", EdgeTermTests::twoRings);
        Check.test("terms: what is lent ends with the wait", EdgeTermTests::lendingEnds);
        Check.test("terms: goes on at once, an interrupt ahead of a permit", EdgeTermTests::interruptAheadOfPermit);
        Check.test("terms: goes on at once, no return, no event, not counted", EdgeTermTests::noReturn);
        Check.test("terms: otherwise it is parked, with or without a deadline", EdgeTermTests::deadlines);
        Check.test("terms: it has no deadline any more", EdgeTermTests::noDeadlineAnyMore);
        Check.test("terms: a return leaves the permit and the interrupt as they are", EdgeTermTests::nothingLeftByReturn);
        Check.test("terms: run N is done in N ticks", EdgeTermTests::runLengths);
        Check.test("terms: run N that is broken by others", EdgeTermTests::brokenRun);
        Check.test("terms: nap N, N ticks behind the present time", EdgeTermTests::napLengths);
        Check.test("terms: nap goes on at once, the place is 1 greater all the same", EdgeTermTests::napAtOnce);
        Check.test("terms: await, if the flag is on it is done", EdgeTermTests::awaitOn);
        Check.test("terms: await stays also if it goes on at once", EdgeTermTests::awaitAtOnce);
        Check.test("terms: await looks at the flag again when it runs next", EdgeTermTests::awaitAgain);
        Check.test("terms: set of a flag that is on, clear of one that is off", EdgeTermTests::setAgain);
        Check.test("terms: wake T, if there is no such thread nothing happens", EdgeTermTests::wakeNone);
        Check.test("terms: wake, tell and steal of a thread that was there ahead of restore()", EdgeTermTests::goneThread);
        Check.test("terms: a wakeup, it can be the thread itself", EdgeTermTests::wakeItself);
        Check.test("terms: tell T, if the cause is 1", EdgeTermTests::tellByCause);
        Check.test("terms: tell T, the cause is 0 then, also without such a thread", EdgeTermTests::tellNone);
        Check.test("terms: tell T, that event stands ahead of those of the wakeup", EdgeTermTests::tellOrder);
        Check.test("terms: steal T, and is not this thread itself", EdgeTermTests::stealItself);
        Check.test("terms: steal T, also if it had one already", EdgeTermTests::stealAgain);
        Check.test("terms: steal T, without a permit or a thread", EdgeTermTests::stealNone);
        lockSentences();
    }

    private static void lockSentences() {
        Check.test("terms: lock L, free", EdgeTermTests::lockFree);
        Check.test("terms: lock L, if the thread itself holds it", EdgeTermTests::lockTwice);
        Check.test("terms: lock L, otherwise it is blocked and stays", EdgeTermTests::lockHeld);
        Check.test("terms: unlock L, if the thread does not hold it", EdgeTermTests::unlockNotHeld);
        Check.test("terms: unlock L of a lock that was given up", EdgeTermTests::unlockTwice);
        Check.test("terms: a faulty thread stays and holds its locks for ever", EdgeTermTests::faultyForEver);
        Check.test("terms: a lock that is given up, otherwise it is free", EdgeTermTests::givenUpFree);
        Check.test("terms: the one with the greatest priority", EdgeTermTests::greatestGetsIt);
        Check.test("terms: of several the one that was blocked first", EdgeTermTests::firstGetsIt);
        Check.test("terms: the greatest priority is a lent one", EdgeTermTests::lentGetsIt);
        Check.test("terms: its place is 1 greater", EdgeTermTests::placeOfNext);
        Check.test("terms: all that follows comes ahead of what the other thread does next", EdgeTermTests::followsFirst);
        Check.test("terms: done at once, it gives up all locks by ascending numbers", EdgeTermTests::ascendingLocks);
        Check.test("terms: done at once, a parked one as soon as it returns", EdgeTermTests::doneByReturn);
        Check.test("terms: the last instruction of 16", EdgeTermTests::lastOfSixteen);
        Check.test("terms: a program that ends by wake, tell, steal, set, clear, await, unlock", EdgeTermTests::lastOnes);
    }

    // ---- threads and priorities

    private static void tenThreads() {
        PermitPark park = Parks.of("thread 1:run 1;".repeat(9) + "thread 1:wake 9;");
        for (int thread = 0; thread < 10; thread++) {
            Check.due("next()", park.next(), thread);
            Check.due("run(1)", park.run(1), 1);
        }
        Check.due("next()", park.next(), -1);
        Check.due("time in which the last one ran", park.thread(9, 11), 9);
    }

    /** The thread 0 holds lock 0 and is parked; 1 and 2 are blocked at it. */
    private static PermitPark held() {
        PermitPark park = Parks.of("thread 9: lock 0, nap 90, unlock 0, run 9; thread 8: lock 0, run 9;"
            + "thread 7: lock 0, run 9;");
        park.run(4);
        Check.dueText("state", Parks.facts(park, 2), "1 2 2");
        return park;
    }

    private static void greatestOfBoth() {
        int[][] bases = {{9, 1, 1}, {5, 5, 5}, {5, 6, 4}, {5, 4, 6}, {1, 1, 9}, {1, 9, 1}, {4, 5, 5}};
        int[] due = {9, 5, 6, 6, 9, 9, 5};
        PermitPark park = held();
        for (int i = 0; i < due.length; i++) {
            for (int thread = 0; thread < 3; thread++) {
                park.setBase(thread, bases[i][thread]);
            }
            Check.due("priority", park.thread(0, 1), due[i]);
            Check.due("priority of one that is blocked", park.thread(1, 1), bases[i][1]);
            Check.due("priority of one that is blocked", park.thread(2, 1), bases[i][2]);
        }
    }

    private static void lendingOffAndOn() {
        PermitPark park = held();
        park.setBase(0, 1);
        Check.dueText("priorities", Parks.facts(park, 1), "8 8 7");
        park.set(1, 0);
        Check.dueText("without lending", Parks.facts(park, 1), "1 8 7");
        park.set(1, 1);
        Check.dueText("priorities", Parks.facts(park, 1), "8 8 7");
        PermitPark text = Parks.of("thread 1: lock 0, run 9; thread 9: nap 1, lock 0; set 1 0;");
        text.run(4);
        Check.dueText("without lending", Parks.facts(text, 1), "1 9");
    }

    /** Six locks make a row of seven threads. */
    private static void longestRow() {
        PermitPark park = new PermitPark();
        for (int i = 0; i < 7; i++) {
            park.addThread(9 - i, 9, i < 6 ? i : 5);
            if (i == 0) {
                park.addInstruction(i, 2, 200);
            } else if (i < 6) {
                park.addInstruction(i, 9, i - 1);
            }
        }
        park.run(14);
        Check.dueText("state", Parks.facts(park, 2), "1 2 2 2 2 2 2");
        for (int i = 0; i < 7; i++) {
            park.setBase(i, 1);
        }
        Check.dueText("all alike", Parks.facts(park, 1), "1 1 1 1 1 1 1");
        park.setBase(6, 9);
        Check.dueText("lent on to the first", Parks.facts(park, 1), "9 9 9 9 9 9 9");
        park.setBase(6, 1);
        park.setBase(3, 5);
        Check.dueText("from the middle on", Parks.facts(park, 1), "5 5 5 5 1 1 1");
        park.setBase(1, 7);
        Check.dueText("from two", Parks.facts(park, 1), "7 7 5 5 1 1 1");
    }

    private static void ringOfTwo() {
        PermitPark park = Parks.of("thread 1: lock 0, lock 1; thread 1: lock 1, lock 0;");
        park.run(4);
        Check.dueText("state", Parks.facts(park, 2), "2 2");
        park.setBase(0, 4);
        Check.dueText("of the first", Parks.facts(park, 1), "4 4");
        park.setBase(1, 6);
        Check.dueText("of the second", Parks.facts(park, 1), "6 6");
        park.set(1, 0);
        Check.dueText("without lending", Parks.facts(park, 1), "4 6");
    }

    private static void ringOfSix() {
        PermitPark park = new PermitPark();
        for (int i = 0; i < 6; i++) {
            park.addThread(1, 9, i);
            park.addInstruction(i, 9, (i + 1) % 6);
        }
        park.run(12);
        Check.dueText("state", Parks.facts(park, 2), "2 2 2 2 2 2");
        for (int i = 0; i < 6; i++) {
            park.setBase(i, 4 + i % 3);
            int due = i == 0 ? 4 : i == 1 ? 5 : 6;
            Check.dueText("all alike", Parks.facts(park, 1), (due + " ").repeat(5) + due);
        }
        park.addThread(9, 9, 0);
        park.run(1);
        Check.dueText("one that lends to the ring", Parks.facts(park, 1), "9 9 9 9 9 9 9");
    }

    private static void twoRings() {
        PermitPark park = Parks.of("thread 1: lock 0, lock 1; thread 1: lock 1, lock 0; thread 1: lock 2, lock 3;"
            + "thread 1: lock 3, lock 2; thread 1: lock 4, nap 9, lock 3; thread 1: nap 9, lock 4;");
        park.run(30);
        Check.dueText("state", Parks.facts(park, 2), "2 2 2 2 2 2");
        park.setBase(1, 3);
        park.setBase(2, 5);
        Check.dueText("each by itself", Parks.facts(park, 1), "3 3 5 5 1 1");
        park.setBase(5, 8);
        Check.dueText("lent on to a ring", Parks.facts(park, 1), "3 3 8 8 8 8");
        Check.due("stuck()", park.stuck(), 63);
    }

    private static void lendingEnds() {
        PermitPark park = Parks.of("thread 9: lock 0, lock 1, run 3, unlock 0, run 9; thread 8: lock 0, run 1;"
            + "thread 7: lock 1, run 1; set 1 0;");
        park.run(2);
        park.setBase(0, 1);
        park.run(2);
        park.set(1, 1);
        park.setBase(1, 5);
        park.setBase(2, 3);
        Check.dueText("state", Parks.facts(park, 2), "0 2 2");
        Check.dueText("priorities", Parks.facts(park, 1), "5 5 3");
        park.run(3);
        Check.dueText("ahead of unlock 0", Parks.facts(park, 1), "5 5 3");
        park.run(1);
        Check.dueText("state", Parks.facts(park, 2), "0 0 2");
        Check.dueText("behind unlock 0", Parks.facts(park, 1), "3 5 3");
        park.run(2);
        Check.dueText("state", Parks.facts(park, 2), "0 3 2");
        park.setBase(2, 1);
        Check.dueText("only its BASE is left", Parks.facts(park, 1), "1 5 1");
    }

    // ---- parking

    private static void interruptAheadOfPermit() {
        PermitPark park = Parks.of("thread 1: park, park, park;");
        park.wake(0);
        park.interrupt(0);
        park.run(1);
        Check.due("cause", park.thread(0, 6), 4);
        Check.due("the interrupt is gone", park.thread(0, 5), 0);
        Check.due("the permit is not", park.thread(0, 4), 1);
        park.run(1);
        Check.due("cause", park.thread(0, 6), 1);
        Check.due("the permit is gone", park.thread(0, 4), 0);
        Check.due("parked", park.thread(0, 2), 0);
        park.run(1);
        Check.due("parked", park.thread(0, 2), 1);
        Check.due("the cause of the latest stays", park.thread(0, 6), 1);
    }

    private static void noReturn() {
        PermitPark park = Parks.of("thread 1: park, nap 9, await 0, run 1;");
        for (int i = 0; i < 3; i++) {
            if (i == 1) {
                park.interrupt(0);
            } else {
                park.wake(0);
            }
            Check.due("returnsIn(0, 1)", park.returnsIn(0, 1), -1);
            Check.due("ahead(1, 2)", park.ahead(1, 2), 0);
            park.run(1);
            Check.due("cause", park.thread(0, 6), i == 1 ? 4 : 1);
        }
        Check.due("events", park.count(13), 0);
        for (int what = 12; what <= 16; what++) {
            Check.due("thread(0, " + what + ")", park.thread(0, what), 0);
        }
        Check.due("deadline", park.thread(0, 7), -1);
    }

    private static void deadlines() {
        PermitPark park = Parks.of("thread 9: park; thread 8: nap 9; thread 7: await 0;");
        park.run(3);
        Check.dueText("state", Parks.facts(park, 2), "1 1 1");
        Check.dueText("deadlines", Parks.facts(park, 7), "-1 10 -1");
        Check.dueText("log", Parks.log(park), "0.0.0.-1 1.0.1.10 2.0.2.-1");
        park.run(500);
        Check.dueText("state", Parks.facts(park, 2), "1 3 1");
    }

    private static void noDeadlineAnyMore() {
        for (int how = 0; how < 3; how++) {
            PermitPark park = Parks.of("thread 1: nap 5, park, run 1;");
            park.run(1);
            Check.due("deadline", park.thread(0, 7), 5);
            Check.due("it returns", how == 0 ? park.wake(0) : how == 1 ? park.interrupt(0) : park.rouse(0) ? 0 : 1, 0);
            Check.due("deadline", park.thread(0, 7), -1);
            park.run(20);
            Check.due("parked again, without a timeout", park.thread(0, 2), 1);
            Check.due("timeouts", park.thread(0, 14), 0);
        }
    }

    private static void nothingLeftByReturn() {
        PermitPark park = Parks.of("thread 1: park, park, park;");
        park.run(1);
        park.interrupt(0);
        Check.due("interrupt", park.thread(0, 5), 0);
        park.wake(0);
        Check.due("permit", park.thread(0, 4), 1);
        park.interrupt(0);
        park.run(1);
        Check.due("of the two one is left", park.thread(0, 4) * 10 + park.thread(0, 5), 10);
        park.run(1);
        Check.due("none is left, and it is done", park.thread(0, 2), 3);
    }

    // ---- instructions

    private static void runLengths() {
        for (int n = 1; n <= 20; n++) {
            PermitPark park = Parks.of("thread 1: run " + n + ", park;");
            for (int i = 1; i < n; i++) {
                park.run(1);
                Check.due("place in run " + n, park.thread(0, 3), 0);
            }
            park.run(1);
            Check.due("place behind run " + n, park.thread(0, 3), 1);
            Check.due("ticks", park.thread(0, 10), n);
            Check.due("events", park.count(13), 0);
        }
    }

    private static void brokenRun() {
        PermitPark park = Parks.of("thread 3: run 3, run 2; thread 3: run 3;");
        park.run(5);
        Check.dueText("place", Parks.facts(park, 3), "1 0");
        Check.due("the other one", park.run(1), 1);
        Check.due("the next run begins anew", park.run(1), 0);
        Check.due("and is done", park.run(1), 1);
        // A wakeup and an interrupt do not end it.
        PermitPark woken = Parks.of("thread 1: run 3;");
        woken.run(1);
        woken.wake(0);
        woken.interrupt(0);
        Check.due("run(1)", woken.run(1), 0);
        Check.due("run(1)", woken.run(1), 1);
    }

    private static void napLengths() {
        for (int n : new int[] {1, 2, 199, 200}) {
            PermitPark park = Parks.of("thread 1: run 1, nap " + n + ";");
            park.run(2);
            Check.due("deadline", park.thread(0, 7), 1 + n);
            Check.due("place", park.thread(0, 3), 1 + 1);
            if (n > 1) {
                Check.due("run up to the deadline", park.run(n - 1), 0);
            }
            Check.due("time", park.count(3), 1 + n);
            Check.due("state", park.thread(0, 2), 1);
            Check.due("run(1)", park.run(1), 1);
        }
    }

    private static void napAtOnce() {
        for (int how = 0; how < 2; how++) {
            PermitPark park = Parks.of("thread 1: nap 200, nap 1, run 1;");
            Check.due("ahead of it", how == 0 ? park.wake(0) : park.interrupt(0), 1);
            park.run(1);
            Check.due("place", park.thread(0, 3), 1);
            Check.due("state", park.thread(0, 2), 0);
            Check.due("deadline", park.thread(0, 7), -1);
            park.run(1);
            Check.due("the next one parks", park.thread(0, 7), 2);
            Check.due("place", park.thread(0, 3), 2);
        }
    }

    private static void awaitOn() {
        for (int flag : new int[] {0, 7}) {
            PermitPark park = Parks.of("thread 1: await " + flag + ", run 1; flag " + flag + ";");
            park.wake(0);
            park.interrupt(0);
            park.run(1);
            Check.due("place", park.thread(0, 3), 1);
            Check.due("permit", park.thread(0, 4), 1);
            Check.due("interrupt", park.thread(0, 5), 1);
            Check.due("cause", park.thread(0, 6), 0);
            Check.due("the flag stays on", park.flag(flag), true);
            PermitPark off = Parks.of("thread 1: await " + flag + ", run 1; flag " + (7 - flag) + ";");
            off.run(1);
            Check.due("another flag is on", off.thread(0, 2), 1);
        }
    }

    private static void awaitAtOnce() {
        PermitPark park = Parks.of("thread 1: await 0, run 1;");
        park.wake(0);
        park.interrupt(0);
        int[] causes = {4, 1};
        for (int cause : causes) {
            park.run(1);
            Check.due("place", park.thread(0, 3), 0);
            Check.due("state", park.thread(0, 2), 0);
            Check.due("cause", park.thread(0, 6), cause);
        }
        park.run(1);
        Check.due("parked at last", park.thread(0, 2), 1);
        Check.due("place", park.thread(0, 3), 0);
        Check.due("ticks", park.thread(0, 10), 3);
    }

    private static void awaitAgain() {
        PermitPark park = Parks.of("thread 1: await 0;");
        park.run(1);
        for (int i = 1; i <= 3; i++) {
            park.wake(0);
            Check.due("off, it parks again", park.run(1), 0);
            Check.due("parks", park.thread(0, 12), 1 + i);
            Check.due("place", park.thread(0, 3), 0);
        }
        park.setFlag(0, true);
        park.wake(0);
        Check.due("ready ahead of its next tick", park.thread(0, 2), 0);
        park.save(0);
        Check.due("on, it is done", park.run(1), 1);
        park.restore(0);
        park.setFlag(0, false);
        Check.due("off again when it looks", park.run(1), 0);
        Check.due("state", park.thread(0, 2), 1);
    }

    private static void setAgain() {
        PermitPark park = Parks.of("thread 1: clear 0, set 0, set 0, clear 7, set 7, clear 0, clear 0, run 1;");
        int[] due = {0, 1, 1, 1, 129, 128, 128};
        for (int flags : due) {
            park.run(1);
            Check.due("flags", park.count(10), flags);
        }
        Check.due("events", park.count(13), 0);
        Check.due("state", park.thread(0, 2), 0);
    }

    private static void wakeNone() {
        PermitPark park = Parks.of("thread 1:wake 9,wake 9,run 1;" + "thread 2:nap 200;".repeat(8));
        park.run(10);
        for (int what = 14; what <= 15; what++) {
            Check.due("count(" + what + ")", park.count(what), 0);
        }
        Check.due("place", park.thread(0, 3), 2);
        Check.due("addThread", park.addThread(9, 0, 1), 9);
        Check.due("no permit waits for it", park.thread(9, 4), 0);
        PermitPark ten = Parks.of("thread 2:wake 9,wake 9,run 1;" + "thread 1:run 1;".repeat(9));
        ten.run(2);
        Check.due("permit of the thread 9", ten.thread(9, 4), 1);
        Check.due("merged", ten.count(14), 1);
        Check.dueText("log", Parks.log(ten), "1.7.9.0");
    }

    private static void goneThread() {
        PermitPark park = Parks.of("thread 1: steal 1, wake 1, park, tell 1, run 9;");
        park.save(0);
        park.addThread(9, 0, 20);
        park.run(3);
        park.wake(1);
        park.interrupt(1);
        park.restore(0);
        park.run(1);
        Check.due("stolen", park.count(16), 0);
        Check.due("permit", park.thread(0, 4), 0);
        park.run(1);
        Check.due("merged", park.count(14), 0);
        park.wake(0);
        park.run(2);
        Check.due("told on", park.count(17), 0);
        Check.due("events", park.count(13), 0);
        Check.due("addThread", park.addThread(9, 0, 20), 1);
        Check.due("neither permit nor interrupt", park.thread(1, 4) + park.thread(1, 5), 0);
        Check.due("no part of its run is done", park.doneIn(1, 500), 20);
        Check.due("run(19)", park.run(19), 0);
        Check.due("run(1)", park.run(1), 1);
    }

    private static void wakeItself() {
        PermitPark park = Parks.of("thread 1: wake 0, wake 0, park, park;");
        park.run(1);
        Check.due("permit", park.thread(0, 4), 1);
        park.run(1);
        Check.dueText("merged, by itself", Parks.log(park), "1.7.0.0");
        park.run(1);
        Check.due("it goes on at once", park.thread(0, 3), 3);
        Check.due("permit", park.thread(0, 4), 0);
        park.run(1);
        Check.due("state", park.thread(0, 2), 1);
    }

    private static void tellByCause() {
        for (int how = 0; how < 5; how++) {
            PermitPark park = Parks.of("thread 9: nap 1, tell 1, run 1; thread 1: run 9;");
            int cause = how;
            if (how == 4) {
                park.interrupt(0);
            } else if (how == 1) {
                park.wake(0);
            } else if (how == 0) {
                // Without a return: the thread begins behind nap.
                park = Parks.of("thread 9: run 1, tell 1, run 1; thread 1: run 9;");
            }
            park.run(1);
            if (how == 3) {
                park.rouse(0);
            }
            Check.due("cause", park.thread(0, 6), how == 2 ? 0 : cause);
            park.run(1);
            Check.due("cause behind it", park.thread(0, 6), how == 1 ? 0 : cause);
            Check.due("told on", park.count(17), how == 1 ? 1 : 0);
            Check.due("permit of the other", park.thread(1, 4), how == 1 ? 1 : 0);
            Check.due("place", park.thread(0, 3), 2);
        }
    }

    private static void tellNone() {
        PermitPark park = Parks.of("thread 9: park, tell 1, tell 0, run 1;");
        park.wake(0);
        park.run(2);
        Check.due("cause", park.thread(0, 6), 0);
        Check.due("told on", park.count(17), 0);
        park.run(1);
        Check.due("told on", park.count(17), 0);
        Check.due("permit", park.thread(0, 4), 0);
        Check.due("events", park.count(13), 0);
        PermitPark ten = Parks.of("thread 9:park,tell 9,run 1;" + "thread 1:run 1;".repeat(9));
        ten.wake(0);
        ten.run(2);
        Check.dueText("told on to the thread 9", Parks.log(ten), "1.9.0.9");
        Check.due("permit", ten.thread(9, 4), 1);
    }

    private static void tellOrder() {
        PermitPark park = Parks.of("thread 8: park, tell 1, park, tell 1, park, tell 1, run 1; thread 9: park, run 3;");
        park.wake(0);
        park.run(3);
        Check.dueText("one that returns", Parks.log(park), "0.0.1.-1 2.9.0.1 2.1.1.1");
        park.wake(0);
        park.wake(1);
        park.set(1, 0);
        park.setBase(0, 9);
        park.setBase(1, 1);
        park.run(2);
        Check.dueText("one that has a permit", Parks.log(park, 3), "4.9.0.1 4.7.1.0");
        park.wake(0);
        park.run(1);
        park.setBase(1, 9);
        park.setBase(0, 1);
        park.run(3);
        Check.dueText("one that is done", Parks.log(park, 5), "8.5.1.0");
        park.run(1);
        Check.dueText("one that is done", Parks.log(park, 5), "8.5.1.0 9.9.0.1");
        Check.due("wasted", park.count(15), 1);
    }

    private static void stealItself() {
        PermitPark park = Parks.of("thread 1: steal 0, steal 0, park, park;");
        park.run(1);
        Check.due("without a permit", park.thread(0, 4), 0);
        park.wake(0);
        park.run(1);
        Check.due("with a permit", park.thread(0, 4), 1);
        Check.due("stolen", park.count(16), 0);
        Check.due("events", park.count(13), 0);
    }

    private static void stealAgain() {
        PermitPark park = Parks.of("thread 9: steal 1, steal 2, steal 1, park, park; thread 1: run 9; thread 1: run 9;");
        park.wake(1);
        park.wake(2);
        park.run(1);
        Check.dueText("permits", Parks.facts(park, 4), "1 0 1");
        park.run(1);
        Check.dueText("it had one already", Parks.facts(park, 4), "1 0 0");
        Check.due("stolen", park.count(16), 2);
        park.run(1);
        Check.due("nothing left to steal", park.count(16), 2);
        Check.dueText("log", Parks.log(park), "0.8.0.1 1.8.0.2");
        Check.due("no merged wakeup", park.count(14), 0);
        park.run(2);
        Check.due("it has but one", park.thread(0, 2), 1);
    }

    private static void stealNone() {
        PermitPark park = Parks.of("thread 9:steal 8,steal 9,run 1;" + "thread 1:run 9;".repeat(8));
        park.run(2);
        Check.due("stolen", park.count(16), 0);
        Check.due("permit", park.thread(0, 4), 0);
        Check.due("place", park.thread(0, 3), 2);
        PermitPark ten = Parks.of("thread 9:steal 9,run 1;" + "thread 1:run 9;".repeat(9));
        ten.wake(9);
        ten.interrupt(9);
        ten.run(1);
        Check.due("stolen of the thread 9", ten.thread(0, 4) * 10 + ten.thread(9, 4), 10);
        Check.due("not the interrupt", ten.thread(9, 5), 1);
        // Of one that is blocked, too.
        PermitPark blocked = Parks.of("thread 9: lock 0, nap 2, steal 1, run 9; thread 8: lock 0;");
        blocked.run(3);
        blocked.wake(1);
        blocked.run(1);
        Check.dueText("permits", Parks.facts(blocked, 4), "1 0");
        Check.due("state", blocked.thread(1, 2), 2);
    }

    // ---- locks

    private static void lockFree() {
        for (int lock : new int[] {0, 5}) {
            PermitPark park = Parks.of("thread 1: lock " + lock + ", unlock " + lock + ", lock " + lock + ", run 1;");
            park.run(1);
            Check.due("lock", park.lock(lock, 0), 0);
            Check.due("place", park.thread(0, 3), 1);
            park.run(1);
            Check.due("lock", park.lock(lock, 0), -1);
            park.run(1);
            Check.due("lock", park.lock(lock, 0), 0);
            Check.dueText("log", Parks.log(park), "0.3.0." + lock + " 1.4.0." + lock + " 2.3.0." + lock);
        }
    }

    private static void lockTwice() {
        for (int lock : new int[] {0, 5}) {
            PermitPark park = Parks.of("thread 1: lock " + lock + ", lock " + (5 - lock) + ", lock " + lock + ", run 1;");
            park.run(3);
            Check.due("state", park.thread(0, 2), 4);
            Check.due("place", park.thread(0, 3), 2);
            Check.due("blocked at", park.thread(0, 8), -1);
            Check.due("lock", park.lock(lock, 1), -1);
            Check.dueText("log", Parks.log(park, 2), "2.6.0.2");
            Check.due("locks", park.thread(0, 9), 33);
        }
    }

    private static void lockHeld() {
        PermitPark park = Parks.of("thread 9: nap 2, lock 5, run 1; thread 1: lock 5, run 20;");
        park.run(3);
        Check.due("state", park.thread(0, 2), 2);
        Check.due("place", park.thread(0, 3), 1);
        Check.due("blocked at", park.thread(0, 8), 5);
        Check.due("ticks", park.thread(0, 10), 2);
        Check.dueText("log", Parks.log(park), "0.0.0.2 1.3.1.5 2.1.0.2 2.2.0.5");
        park.run(5);
        Check.due("it does not run any more", park.thread(0, 10), 2);
    }

    private static void unlockNotHeld() {
        PermitPark free = Parks.of("thread 1: unlock 0;");
        free.run(1);
        Check.due("a free one", free.thread(0, 2), 4);
        Check.dueText("log", Parks.log(free), "0.6.0.0");
        PermitPark other = Parks.of("thread 9: lock 5, nap 9; thread 1: run 1, unlock 5;");
        other.run(4);
        Check.due("of another", other.thread(1, 2), 4);
        Check.due("lock(5, 0)", other.lock(5, 0), 0);
        Check.dueText("log", Parks.log(other, 2), "3.6.1.1");
        PermitPark own = Parks.of("thread 1: lock 5, unlock 0;");
        own.run(2);
        Check.due("not that one", own.thread(0, 2), 4);
        Check.due("locks", own.thread(0, 9), 32);
    }

    private static void unlockTwice() {
        PermitPark park = Parks.of("thread 1: lock 0, unlock 0, unlock 0;");
        park.run(3);
        Check.due("state", park.thread(0, 2), 4);
        Check.due("place", park.thread(0, 3), 2);
        Check.due("locks", park.count(11), 0);
    }

    private static void faultyForEver() {
        PermitPark park = Parks.of("thread 9: lock 0, lock 5, unlock 1, run 1; thread 8: lock 5; thread 7: lock 0;");
        park.run(500);
        park.wake(0);
        park.interrupt(0);
        park.run(500);
        Check.dueText("state", Parks.facts(park, 2), "4 2 2");
        Check.due("locks", park.thread(0, 9), 33);
        Check.due("place", park.thread(0, 3), 2);
        Check.due("ticks", park.thread(0, 10), 3);
        Check.due("faults", park.events(6, 0), 1);
    }

    private static void givenUpFree() {
        PermitPark park = Parks.of("thread 9: lock 5, unlock 5, run 1; thread 1: lock 5, run 1;");
        park.run(2);
        Check.due("lock(5, 0)", park.lock(5, 0), -1);
        Check.due("locks", park.count(11), 0);
        Check.dueText("log", Parks.log(park), "0.3.0.5 1.4.0.5");
        park.run(2);
        Check.due("another one gets it", park.lock(5, 0), 1);
    }

    private static void greatestGetsIt() {
        for (int greatest = 1; greatest <= 3; greatest++) {
            PermitPark park = Parks.of("thread 9: lock 0, nap 20, unlock 0, run 5; thread 8: lock 0, run 5;"
                + "thread 8: lock 0, run 5; thread 8: lock 0, run 5;");
            park.run(5);
            park.setBase(greatest, 9);
            park.wake(0);
            park.run(1);
            Check.due("holder", park.lock(0, 0), greatest);
            Check.due("the first of the others", park.lock(0, 1), greatest == 1 ? 2 : 1);
            Check.due("the second of the others", park.lock(0, 2), greatest == 3 ? 2 : 3);
            Check.due("no third", park.lock(0, 3), -1);
        }
    }

    private static void firstGetsIt() {
        PermitPark park = Parks.of("thread 9: lock 0, nap 20, unlock 0, run 5; thread 6: lock 0, run 5;"
            + "thread 7: lock 0, run 5; thread 8: lock 0, run 5;");
        park.run(5);
        Check.due("blocked first", park.lock(0, 1), 3);
        for (int thread = 1; thread <= 3; thread++) {
            park.setBase(thread, 4);
        }
        park.wake(0);
        park.run(1);
        Check.due("holder", park.lock(0, 0), 3);
        Check.due("the first of the others", park.lock(0, 1), 2);
    }

    private static void lentGetsIt() {
        String setup = "thread 9: lock 0, nap 20, unlock 0, run 5; thread 8: lock 0, run 5;"
            + "thread 7: lock 1, lock 0, run 5; thread 6: lock 1, run 5;";
        for (int lending = 0; lending <= 1; lending++) {
            PermitPark park = Parks.of(setup + "set 1 " + lending + ";");
            park.run(6);
            Check.dueText("state", Parks.facts(park, 2), "1 2 2 2");
            park.setBase(3, 9);
            park.wake(0);
            park.run(1);
            Check.due("holder", park.lock(0, 0), lending == 1 ? 2 : 1);
        }
    }

    private static void placeOfNext() {
        PermitPark park = Parks.of("thread 9: lock 0, nap 5, unlock 0, run 5; thread 8: run 1, lock 0, run 2;");
        park.run(4);
        Check.due("place", park.thread(1, 3), 1);
        park.wake(0);
        park.run(1);
        Check.due("place", park.thread(1, 3), 2);
        Check.due("state", park.thread(1, 2), 0);
        Check.due("it did not run for that", park.thread(1, 11), 3);
        Check.due("ticks", park.thread(1, 10), 2);
    }

    private static void followsFirst() {
        // unlock 0: the thread 1 gets it, is done, and its locks go on, ahead of the end of the thread 0.
        PermitPark park = Parks.of("thread 9: lock 0, nap 20, unlock 0; thread 8: lock 5, lock 1, lock 0;"
            + "thread 7: lock 1; thread 6: lock 5;");
        park.run(7);
        Check.dueText("state", Parks.facts(park, 2), "1 2 2 2");
        park.wake(0);
        Check.due("run(1)", park.run(1), 4);
        Check.dueText("log", Parks.log(park, 8), "7.4.0.0 7.3.1.0 7.5.1.0 7.4.1.0 7.4.1.1 7.3.2.1 7.5.2.0 7.4.2.1"
            + " 7.4.1.5 7.3.3.5 7.5.3.0 7.4.3.5 7.5.0.0");
    }

    private static void ascendingLocks() {
        PermitPark park = Parks.of("thread 9: lock 5, lock 3, lock 0, lock 4, run 1; thread 1: run 1;");
        Check.due("run(5)", park.run(5), 1);
        Check.dueText("log", Parks.log(park, 4), "4.5.0.0 4.4.0.0 4.4.0.3 4.4.0.4 4.4.0.5");
        Check.due("locks", park.count(11), 0);
    }

    private static void doneByReturn() {
        PermitPark park = Parks.of("thread 9: nap 1; thread 8: park; thread 7: run 9;");
        park.run(1);
        Check.due("place", park.thread(0, 3), 1);
        Check.due("state", park.thread(0, 2), 1);
        Check.due("in step 1", park.run(1), 1);
        Check.due("another thread runs in that tick", park.thread(1, 11), 1);
        park.wake(1);
        Check.due("by a call", park.thread(1, 2), 3);
        Check.due("place", park.thread(1, 3), 1);
    }

    private static void lastOfSixteen() {
        PermitPark park = Parks.of("thread 1:run 1" + ",run 1".repeat(14) + ",lock 5;");
        Check.due("run(15)", park.run(15), 0);
        Check.due("place", park.thread(0, 3), 15);
        Check.due("run(1)", park.run(1), 1);
        Check.due("place", park.thread(0, 3), 16);
        Check.dueText("log", Parks.log(park), "15.3.0.5 15.5.0.0 15.4.0.5");
    }

    private static void lastOnes() {
        String[] lasts = {"wake 1", "wake 0", "wake 9", "tell 1", "tell 9", "steal 1", "steal 0", "set 0", "clear 0",
            "await 7", "unlock 0", "lock 1", "run 1"};
        for (String last : lasts) {
            PermitPark park = Parks.of("thread 9: lock 0, " + last + "; thread 1: run 9; flag 7;");
            park.run(1);
            Check.due("run(1) of " + last, park.run(1), 1);
            Check.due("state", park.thread(0, 2), 3);
            Check.due("place", park.thread(0, 3), 2);
            Check.due("locks", park.count(11), 0);
        }
    }
}
