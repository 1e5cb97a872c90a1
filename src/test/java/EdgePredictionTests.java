/** Boundary cases of promises 29 to 34: predictions and saved states; a test for each sentence. */
final class EdgePredictionTests {
    private EdgePredictionTests() {
    }

    static void run() {
        Check.test("promise 29: most 1 to 500", EdgePredictionTests::doneInRange);
        Check.test("promise 29: behind how many ticks it is done", EdgePredictionTests::doneInTicks);
        Check.test("promise 29: 0 if it is now", EdgePredictionTests::doneNow);
        Check.test("promise 29: NONE if not within so many", EdgePredictionTests::notDone);
        Check.test("promise 30: most 1 to 500", EdgePredictionTests::returnsInRange);
        Check.test("promise 30: k, if it returns for the next time in the k-th tick", EdgePredictionTests::returnsInTicks);
        Check.test("promise 30: NONE if not within so many", EdgePredictionTests::neverReturns);
        Check.test("promise 30: what goes on at once is no return", EdgePredictionTests::atOnceIsNoReturn);
        Check.test("promise 31: ticks 1 to 500", EdgePredictionTests::aheadRange);
        Check.test("promise 31: what 0 to 3", EdgePredictionTests::aheadWhat);
        Check.test("promise 31: 0, threads that are done then; 1, idle ticks in these", EdgePredictionTests::aheadDone);
        Check.test("promise 31: 2, returns of all threads and causes in these", EdgePredictionTests::aheadReturns);
        Check.test("promise 31: 3, events in these, also more than the log keeps", EdgePredictionTests::aheadEvents);
        Check.test("promise 32: most 1 to 200", EdgePredictionTests::bestBaseRange);
        Check.test("promise 32: each of 1 to 9, of several the least", EdgePredictionTests::bestBaseEach);
        Check.test("promise 32: 1 if it is done now", EdgePredictionTests::bestBaseNow);
        Check.test("promise 32: NONE if it is with none within so many", EdgePredictionTests::bestBaseNone);
        Check.test("promises 29, 30, 32: if there is no such thread, the exceptions in their order",
            EdgePredictionTests::threads);
        Check.test("promises 29 to 32: nothing changes", EdgePredictionTests::nothingChanges);
        Check.test("promises 29 to 32: with the draws that would come", EdgePredictionTests::draws);
        Check.test("promise 33: slot 0 or 1", EdgePredictionTests::saveRange);
        Check.test("promise 33: a state that is already saved there is replaced", EdgePredictionTests::replaced);
        Check.test("promise 33: everything", EdgePredictionTests::everything);
        Check.test("promise 33: except the text buffer", EdgePredictionTests::exceptText);
        Check.test("promise 33: except the latest error", EdgePredictionTests::exceptError);
        Check.test("promise 33: and the saved states", EdgePredictionTests::exceptSaved);
        Check.test("promise 34: slot 0 or 1, the exceptions in their order", EdgePredictionTests::restoreRange);
        Check.test("promise 34: if nothing is saved there", EdgePredictionTests::nothingSaved);
        Check.test("promise 34: which stays saved", EdgePredictionTests::staysSaved);
        Check.test("promises 33, 34: of a machine without threads, of a full one", EdgePredictionTests::emptyAndFull);
        Check.test("promise 33: everything, a full log", EdgePredictionTests::savedLog);
        Check.test("promise 33: everything, the counters", EdgePredictionTests::savedCounters);
        Check.test("promise 33: everything, those that are blocked at each lock", EdgePredictionTests::savedLocks);
        Check.test("promises 29 to 32: of 10 threads", EdgePredictionTests::tenThreads);
    }

    // ---- promise 29

    private static void doneInRange() {
        PermitPark park = Parks.of("thread 1: run 1;");
        Check.due("doneIn(0, 1)", park.doneIn(0, 1), 1);
        Check.due("doneIn(0, 500)", park.doneIn(0, 500), 1);
        for (int most : new int[] {0, -1, 501, Edges.LEAST, Edges.MOST}) {
            Edges.refused("doneIn(2, " + most + ")", Edges.ARGUMENT, one -> one.doneIn(2, most));
        }
    }

    private static void doneInTicks() {
        PermitPark park = Parks.of("thread 1: nap 200, nap 200, nap 99, run 1;");
        Check.due("doneIn(0, 500)", park.doneIn(0, 500), 500);
        Check.due("doneIn(0, 499)", park.doneIn(0, 499), -1);
        park.run(1);
        Check.due("doneIn(0, 499)", park.doneIn(0, 499), 499);
        park.run(498);
        Check.due("doneIn(0, 1)", park.doneIn(0, 1), 1);
        // One that ends in step 1, one that ends by another thread.
        PermitPark nap = Parks.of("thread 1: nap 1; thread 9: lock 0, nap 3; thread 8: lock 0;");
        nap.run(4);
        Check.due("by its timeout", nap.doneIn(0, 500), 1);
        Check.due("by its timeout", nap.doneIn(1, 500), 1);
        Check.due("by a lock of another", nap.doneIn(2, 1), 1);
        PermitPark run = Parks.of("thread 1: run 20;");
        for (int ticks = 20; ticks > 0; ticks--) {
            Check.due("doneIn(0, " + ticks + ")", run.doneIn(0, ticks), ticks);
            Check.due("doneIn(0, 500)", run.doneIn(0, 500), ticks);
            if (ticks > 1) {
                Check.due("doneIn(0, " + (ticks - 1) + ")", run.doneIn(0, ticks - 1), -1);
            }
            run.run(1);
        }
    }

    private static void doneNow() {
        PermitPark park = Parks.of("thread 1: run 1;");
        park.run(1);
        Check.due("doneIn(0, 1)", park.doneIn(0, 1), 0);
        Check.due("doneIn(0, 500)", park.doneIn(0, 500), 0);
        Check.dueThrow("doneIn(0, 0)", Edges.ARGUMENT, () -> park.doneIn(0, 0));
        Check.dueThrow("doneIn(0, 501)", Edges.ARGUMENT, () -> park.doneIn(0, 501));
    }

    private static void notDone() {
        PermitPark park = Parks.of("thread 1: park; thread 1: unlock 0;");
        Check.due("parked for ever", park.doneIn(0, 500), -1);
        Check.due("faulty", park.doneIn(1, 500), -1);
        park.run(2);
        Check.due("faulty now", park.doneIn(1, 500), -1);
        park.wake(0);
        Check.due("done now", park.doneIn(0, 1), 0);
    }

    // ---- promise 30

    private static void returnsInRange() {
        PermitPark park = Parks.of("thread 1: nap 1, run 1;");
        park.run(1);
        Check.due("returnsIn(0, 1)", park.returnsIn(0, 1), 1);
        Check.due("returnsIn(0, 500)", park.returnsIn(0, 500), 1);
        for (int most : new int[] {0, -1, 501, Edges.LEAST, Edges.MOST}) {
            Edges.refused("returnsIn(2, " + most + ")", Edges.ARGUMENT, one -> one.returnsIn(2, most));
        }
    }

    private static void returnsInTicks() {
        PermitPark park = Parks.of("thread 1: nap 200, nap 3, run 1;");
        // It naps in the 1st tick, at 0, and returns at 200, in the 201st.
        Check.due("returnsIn(0, 201)", park.returnsIn(0, 201), 201);
        Check.due("returnsIn(0, 200)", park.returnsIn(0, 200), -1);
        park.run(200);
        Check.due("returnsIn(0, 1)", park.returnsIn(0, 1), 1);
        park.run(1);
        Check.due("the next time", park.returnsIn(0, 500), 3);
        Check.due("the next time", park.returnsIn(0, 2), -1);
        PermitPark far = Parks.of("thread 9: run 20, run 20, run 20, run 20, run 20, run 20, run 20, run 20, run 20, run 20,"
            + "run 20, run 20, run 20, run 20, run 19, nap 200;");
        far.run(1);
        Check.due("in the 499th", far.returnsIn(0, 500), 499);
        Check.due("in the 499th", far.returnsIn(0, 499), 499);
        Check.due("not within 498", far.returnsIn(0, 498), -1);
        PermitPark woken = Parks.of("thread 9: park; thread 8: run 2, wake 0;");
        Check.due("by another thread", woken.returnsIn(0, 4), 4);
        Check.due("by another thread", woken.returnsIn(0, 3), -1);
        PermitPark drawn = Parks.of("thread 9: park, park, run 1; set 0 1000;");
        Check.due("without a cause", drawn.returnsIn(0, 500), 2);
        drawn.run(2);
        Check.due("without a cause, again", drawn.returnsIn(0, 500), 1);
    }

    private static void neverReturns() {
        PermitPark park = Parks.of("thread 9: run 1; thread 8: unlock 0; thread 7: park; thread 6: run 9;");
        park.run(3);
        Check.dueText("state", Parks.facts(park, 2), "3 4 1 0");
        for (int thread = 0; thread < 4; thread++) {
            Check.due("returnsIn(" + thread + ", 500)", park.returnsIn(thread, 500), -1);
        }
    }

    private static void atOnceIsNoReturn() {
        PermitPark park = Parks.of("thread 9: park, park, run 1; thread 8: run 5, wake 0;");
        park.wake(0);
        // The 1st tick: it goes on at once; the 2nd: it parks; the 3rd to 8th: the other one runs and wakes it.
        Check.due("returnsIn(0, 500)", park.returnsIn(0, 500), 8);
        Check.due("ahead(1, 2)", park.ahead(1, 2), 0);
    }

    // ---- promise 31

    private static void aheadRange() {
        PermitPark park = Parks.of("thread 1: run 1;");
        Check.due("ahead(1, 1)", park.ahead(1, 1), 0);
        Check.due("ahead(2, 1)", park.ahead(2, 1), 1);
        Check.due("ahead(499, 1)", park.ahead(499, 1), 498);
        Check.due("ahead(500, 1)", park.ahead(500, 1), 499);
        for (int ticks : new int[] {0, -1, 501, Edges.LEAST, Edges.MOST}) {
            Edges.refused("ahead(" + ticks + ", 0)", Edges.ARGUMENT, one -> one.ahead(ticks, 0));
            Edges.refused("ahead(" + ticks + ", 4)", Edges.ARGUMENT, one -> one.ahead(ticks, 4));
        }
    }

    private static void aheadWhat() {
        int[] due = {1, 0, 0, 1};
        for (int what = 0; what <= 3; what++) {
            Check.due("ahead(1, " + what + ")", Parks.of("thread 1: run 1;").ahead(1, what), due[what]);
        }
        for (int what : new int[] {-1, 4, Edges.LEAST, Edges.MOST}) {
            Edges.refused("ahead(1, " + what + ")", Edges.ARGUMENT, park -> park.ahead(1, what));
        }
    }

    private static void aheadDone() {
        PermitPark park = Parks.of("thread 9: run 1; thread 8: run 2; thread 7: unlock 0;");
        int[] done = {1, 1, 2, 2, 2};
        int[] idle = {0, 0, 0, 0, 1};
        for (int ticks = 1; ticks <= 5; ticks++) {
            Check.due("ahead(" + ticks + ", 0)", park.ahead(ticks, 0), done[ticks - 1]);
            Check.due("ahead(" + ticks + ", 1)", park.ahead(ticks, 1), idle[ticks - 1]);
        }
        park.run(10);
        Check.due("done before, too", park.ahead(1, 0), 2);
        Check.due("idle ones of these only", park.ahead(1, 1), 1);
        Check.due("without threads", new PermitPark().ahead(1, 0), 0);
    }

    private static void aheadReturns() {
        PermitPark park = Parks.of("thread 9: park, await 0; thread 8: nap 3, run 1; thread 7: run 1, wake 0;");
        // 0 parks, 1 naps at 1 until 4, 2 runs at 2 and wakes 0 at 3, which awaits the flag at 4.
        int[] due = {0, 0, 0, 1, 2, 2};
        for (int ticks = 1; ticks <= 6; ticks++) {
            Check.due("ahead(" + ticks + ", 2)", park.ahead(ticks, 2), due[ticks - 1]);
        }
        park.run(5);
        Check.due("not those before", park.ahead(500, 2), 0);
        park.set(0, 1000);
        Check.due("without a cause", park.ahead(1, 2), 1);
        park.interrupt(0);
        Check.due("not those of calls", park.ahead(1, 2), 0);
    }

    private static void aheadEvents() {
        PermitPark park = Parks.of("thread 1: await 0; set 0 1000;");
        for (int ticks : new int[] {1, 20, 21, 500}) {
            Check.due("ahead(" + ticks + ", 3)", park.ahead(ticks, 3), 2 * ticks - 1);
        }
        park.run(21);
        Check.due("the log is full", park.count(13), 40);
        for (int ticks : new int[] {1, 20, 21, 500}) {
            Check.due("ahead(" + ticks + ", 3) with a full log", park.ahead(ticks, 3), 2 * ticks);
        }
        Check.due("the log is full", park.count(13), 40);
        Check.due("none", new PermitPark().ahead(500, 3), 0);
    }

    // ---- promise 32

    private static void bestBaseRange() {
        PermitPark park = Parks.of("thread 9: run 20, run 20, run 20, run 20, run 20, run 20, run 20, run 20, run 20, run 20;");
        Check.due("bestBase(0, 200)", park.bestBase(0, 200), 1);
        Check.due("bestBase(0, 199)", park.bestBase(0, 199), -1);
        park.run(199);
        Check.due("bestBase(0, 1)", park.bestBase(0, 1), 1);
        for (int most : new int[] {0, -1, 201, 500, 501, Edges.LEAST, Edges.MOST}) {
            Edges.refused("bestBase(2, " + most + ")", Edges.ARGUMENT, one -> one.bestBase(2, most));
        }
    }

    /** The other thread has the greatest BASE; the thread is first with one more, or as great and a lower number. */
    private static void bestBaseEach() {
        for (int other = 1; other <= 9; other++) {
            PermitPark ahead = Parks.of("thread 5: run 1; thread " + other + ": run 1;");
            Check.due("as great, a lower number", ahead.bestBase(0, 1), other);
            PermitPark behind = Parks.of("thread " + other + ": run 1; thread 5: run 1;");
            Check.due("greater, in the first tick", behind.bestBase(1, 1), other < 9 ? other + 1 : -1);
            Check.due("greater, or in the second tick with each", behind.bestBase(1, 200), other < 9 ? other + 1 : 1);
        }
        PermitPark nine = Parks.of("thread 9: run 3; thread 1: run 2;");
        Check.due("9, in turns", nine.bestBase(1, 4), 9);
        Check.due("not within 3", nine.bestBase(1, 3), -1);
        Check.due("all are alike for one alone", Parks.of("thread 9: run 3;").bestBase(0, 3), 1);
        // The lower the better: it sees the flag only behind the other one.
        PermitPark low = Parks.of("thread 9: await 0, run 1; thread 4: set 0;");
        Check.due("less than the other", low.bestBase(0, 200), 1);
    }

    private static void bestBaseNow() {
        PermitPark park = Parks.of("thread 9: run 1; thread 1: run 20;");
        Check.due("ahead of that", park.bestBase(0, 1), 1);
        park.run(1);
        Check.due("bestBase(0, 1)", park.bestBase(0, 1), 1);
        Check.due("bestBase(0, 200)", park.bestBase(0, 200), 1);
        Check.dueThrow("bestBase(0, 0)", Edges.ARGUMENT, () -> park.bestBase(0, 0));
        Check.dueThrow("bestBase(0, 201)", Edges.ARGUMENT, () -> park.bestBase(0, 201));
    }

    private static void bestBaseNone() {
        PermitPark park = Parks.of("thread 1: park; thread 1: unlock 0; thread 1: run 2;");
        Check.due("parked for ever", park.bestBase(0, 200), -1);
        Check.due("faulty", park.bestBase(1, 200), -1);
        Check.due("with 2, in 2 ticks", park.bestBase(2, 2), 2);
        Check.due("not in 1", park.bestBase(2, 1), -1);
    }

    // ---- promises 29 to 32

    private static void threads() {
        Check.due("doneIn(3, 1)", Edges.rich().doneIn(3, 1), -1);
        Check.due("returnsIn(3, 1)", Edges.rich().returnsIn(3, 1), -1);
        Check.due("bestBase(3, 1)", Edges.rich().bestBase(3, 1), -1);
        for (int thread : new int[] {-1, 4, 9, 10, Edges.LEAST, Edges.MOST}) {
            for (int most : new int[] {1, 0, 501}) {
                Edges.refused("doneIn(" + thread + ", " + most + ")", Edges.INDEX, park -> park.doneIn(thread, most));
                Edges.refused("returnsIn(" + thread + ", " + most + ")", Edges.INDEX,
                    park -> park.returnsIn(thread, most));
                Edges.refused("bestBase(" + thread + ", " + most + ")", Edges.INDEX, park -> park.bestBase(thread, most));
            }
        }
    }

    private static void nothingChanges() {
        for (int most : new int[] {1, 200, 500}) {
            for (int thread = 0; thread < 4; thread++) {
                int t = thread;
                Edges.unchanged("doneIn", Edges::rich, park -> park.doneIn(t, most));
                Edges.unchanged("returnsIn", Edges::rich, park -> park.returnsIn(t, most));
                Edges.unchanged("ahead", Edges::rich, park -> park.ahead(most, t));
                Edges.unchanged("bestBase", Edges::rich, park -> park.bestBase(t, most < 500 ? most : 100));
            }
        }
        Edges.unchanged("next", Edges::rich, PermitPark::next);
    }

    private static void draws() {
        for (int seed : new int[] {0, 1, 4711, 1000002}) {
            Edges.Maker maker = () -> {
                PermitPark park = Parks.of("thread 1: park, park, run 2; thread 2: nap 50, run 3; set 0 20;");
                park.run(2);
                park.seed(seed);
                return park;
            };
            for (int thread = 0; thread < 2; thread++) {
                PermitPark park = maker.make();
                int returns = park.returnsIn(thread, 500);
                int done = park.doneIn(thread, 500);
                PermitPark other = maker.make();
                for (int tick = 1; tick <= 60; tick++) {
                    Check.due("returns", park.ahead(tick, 2), returnsBehind(other));
                    boolean hasReturned = other.thread(thread, 14) + other.thread(thread, 15) > 0;
                    Check.due("returned", hasReturned, returns > 0 && returns <= tick);
                    Check.due("done", other.thread(thread, 2) == 3, done >= 0 && done <= tick);
                }
            }
        }
    }

    /** Lets a tick pass; returns how often threads have returned behind it. */
    private static int returnsBehind(PermitPark park) {
        park.run(1);
        return park.thread(0, 15) + park.thread(1, 14) + park.thread(1, 15);
    }

    // ---- promises 33 and 34

    private static void saveRange() {
        for (int slot = 0; slot <= 1; slot++) {
            PermitPark park = Edges.rich();
            park.save(slot);
            park.run(3);
            park.restore(slot);
            Check.due("time", park.count(3), 8);
        }
        for (int slot : new int[] {-1, 2, Edges.LEAST, Edges.MOST}) {
            Edges.refused("save(" + slot + ")", Edges.ARGUMENT, park -> { park.save(slot); return 0; });
        }
    }

    private static void replaced() {
        PermitPark park = Edges.rich();
        park.save(1);
        park.run(1);
        park.save(0);
        park.run(1);
        park.restore(0);
        Check.due("the later one", park.count(3), 9);
        park.restore(1);
        Check.due("the other slot", park.count(3), 8);
        park.save(1);
        park.restore(1);
        Check.due("saved again", park.count(3), 8);
    }

    /** All that is seen, and all that is seen later, is as if nothing had happened in between. */
    private static void everything() {
        Edges.Act act = park -> {
            park.save(1);
            park.run(100);
            park.interrupt(1);
            park.set(0, 500);
            park.set(1, 0);
            park.seed(3);
            park.setFlag(0, true);
            park.setFlag(2, false);
            park.setBase(0, 9);
            for (int i = 4; i < 10; i++) {
                park.addThread(9, 9, 0);
            }
            park.run(60);
            park.restore(1);
            return 0;
        };
        Edges.unchanged("save(1), much else, restore(1)", () -> {
            PermitPark park = Edges.rich();
            park.save(1);
            return park;
        }, act);
        // In the middle of a run, with a permit, an interrupt, a deadline and a lock.
        PermitPark park = Parks.of("thread 9: nap 1, run 5, nap 9, run 1;");
        park.run(4);
        park.save(0);
        park.run(7);
        park.restore(0);
        Check.due("in the middle of a run", park.doneIn(0, 500), 12);
    }

    private static void exceptText() {
        PermitPark park = new PermitPark();
        Parks.write(park, "flag 1; ");
        park.save(0);
        Parks.write(park, "flag 2; ");
        park.restore(0);
        Check.due("the present length", park.truncateText(16), 16);
        Check.dueThrow("truncateText(17)", Edges.ARGUMENT, () -> park.truncateText(17));
        Check.due("load()", park.load(), 0);
        Check.due("flags", park.count(10), 6);
        park.restore(0);
        Check.due("the text does not come back", park.load(), 0);
        Check.due("flags", park.count(10), 0);
    }

    private static void exceptError() {
        PermitPark park = new PermitPark();
        Parks.load(park, "flag 8;");
        park.save(0);
        park.load();
        park.restore(0);
        Check.due("errorCode()", park.errorCode(), 0);
        Check.due("errorPosition()", park.errorPosition(), -1);
        Parks.load(park, ";");
        park.restore(0);
        Check.due("errorCode()", park.errorCode(), 1);
        Check.due("errorPosition()", park.errorPosition(), 0);
    }

    private static void exceptSaved() {
        PermitPark park = new PermitPark();
        park.save(0);
        park.run(1);
        park.save(1);
        park.restore(0);
        park.restore(1);
        Check.due("the slot 1 is not as it was at save(0)", park.count(3), 1);
    }

    private static void restoreRange() {
        for (int slot : new int[] {-1, 2, Edges.LEAST, Edges.MOST}) {
            Edges.refused("restore(" + slot + ")", Edges.ARGUMENT, park -> { park.restore(slot); return 0; });
            Edges.refused("restore(" + slot + ") with nothing saved", Edges.ARGUMENT, PermitPark::new,
                park -> { park.restore(slot); return 0; });
        }
    }

    private static void nothingSaved() {
        Edges.refused("restore(1)", Edges.STATE, park -> { park.restore(1); return 0; });
        Edges.refused("restore(0)", Edges.STATE, () -> {
            PermitPark park = new PermitPark();
            park.save(1);
            return park;
        }, park -> { park.restore(0); return 0; });
    }

    private static void staysSaved() {
        PermitPark park = Edges.rich();
        for (int i = 0; i < 3; i++) {
            park.restore(0);
            Check.due("time", park.count(3), 2);
            park.run(10 + i);
            park.wake(1);
        }
        park.load();
        park.restore(0);
        Check.due("behind load()", park.count(2), 4);
        Check.dueText("as it was saved", Parks.log(park), "0.6.3.0 1.0.0.3");
    }

    private static void emptyAndFull() {
        PermitPark park = new PermitPark();
        park.save(0);
        Parks.load(park, "thread 1:park;".repeat(10));
        park.run(20);
        park.save(1);
        park.restore(0);
        Check.due("threads", park.count(2), 0);
        Check.dueThrow("thread(0, 0)", Edges.INDEX, () -> park.thread(0, 0));
        Check.due("addThread", park.addThread(5, 0, 1), 0);
        park.restore(1);
        Check.due("threads", park.count(2), 10);
        Check.due("parked", park.count(6), 10);
        Check.dueThrow("addThread", Edges.STATE, () -> park.addThread(5, 0, 1));
    }

    private static void savedLog() {
        PermitPark park = Parks.of("thread 1: await 0; set 0 1000;");
        park.run(100);
        String log = Parks.log(park);
        park.save(0);
        park.run(7);
        park.restore(0);
        Check.dueText("the log", Parks.log(park), log);
        park.run(500);
        park.restore(0);
        Check.due("events", park.count(13), 40);
        PermitPark same = Parks.of("thread 1: await 0; set 0 1000;");
        same.run(100);
        park.run(3);
        same.run(3);
        Check.dueText("the log, later", Parks.log(park), Parks.log(same));
    }

    private static PermitPark counted() {
        PermitPark park = Parks.of("thread 9: park, tell 1, steal 1, wake 2, wake 0, wake 0, run 9; thread 1: run 9;"
            + "thread 9: run 1;");
        park.wake(0);
        park.run(9);
        return park;
    }

    private static void savedCounters() {
        int[] due = {1, 1, 1, 1};
        PermitPark park = counted();
        park.save(0);
        for (int what = 14; what <= 17; what++) {
            Check.due("count(" + what + ")", park.count(what), due[what - 14] + (what == 14 ? 1 : 0));
        }
        park.wake(0);
        park.wake(0);
        park.wake(2);
        park.load();
        park.restore(0);
        Check.dueText("all", Parks.all(park), Parks.all(counted()));
    }

    private static void savedLocks() {
        for (int lock : new int[] {0, 1, 5}) {
            String setup = ("thread 9:lock L,nap 50;" + "thread 1:lock L,run 1;".repeat(9)).replace("L", "" + lock);
            PermitPark park = Parks.of(setup);
            Check.due("done in time", park.doneIn(9, 500), 60);
            park.run(11);
            park.save(1);
            Check.due("done in time", park.doneIn(9, 500), 49);
            Check.due("all done", park.ahead(49, 0), 10);
            park.wake(0);
            park.run(20);
            park.load();
            park.restore(1);
            for (int index = 0; index <= 10; index++) {
                Check.due("lock(" + lock + ", " + index + ")", park.lock(lock, index), index < 10 ? index : -1);
            }
            park.wake(0);
            Check.due("run(9)", park.run(9), 9);
        }
    }

    private static void tenThreads() {
        PermitPark park = Parks.of("thread 1:nap 20,run 1;".repeat(10));
        Check.due("ahead(20, 2)", park.ahead(20, 2), 0);
        Check.due("ahead(21, 2)", park.ahead(21, 2), 1);
        Check.due("ahead(30, 2)", park.ahead(30, 2), 10);
        Check.due("ahead(29, 0)", park.ahead(29, 0), 9);
        Check.due("ahead(30, 0)", park.ahead(30, 0), 10);
        Check.due("ahead(30, 1)", park.ahead(30, 1), 10);
        Check.due("ahead(30, 3)", park.ahead(30, 3), 30);
        Check.due("doneIn(9, 500)", park.doneIn(9, 500), 30);
        Check.due("returnsIn(9, 500)", park.returnsIn(9, 500), 30);
        Check.due("bestBase(9, 200)", park.bestBase(9, 200), 2);
        Check.due("bestBase(9, 21)", park.bestBase(9, 21), 2);
        Check.due("bestBase(9, 20)", park.bestBase(9, 20), -1);
    }
}
