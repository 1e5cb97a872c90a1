/** Promises 29 to 32: predictions. */
final class PredictionTests {
    private static final Class<? extends RuntimeException> INDEX = IndexOutOfBoundsException.class;
    private static final Class<? extends RuntimeException> ARGUMENT = IllegalArgumentException.class;
    private static final int[] FAR = {Integer.MIN_VALUE, Integer.MAX_VALUE};

    private PredictionTests() {
    }

    static void run() {
        Check.test("promise 29: doneIn", PredictionTests::doneIn);
        Check.test("promise 30: returnsIn", PredictionTests::returnsIn);
        Check.test("promise 31: ahead", PredictionTests::ahead);
        Check.test("promise 31: more events than the log keeps", PredictionTests::manyEvents);
        Check.test("promise 32: bestBase", PredictionTests::bestBase);
        Check.test("promises 29 to 32: with the draws that would come", PredictionTests::draws);
        Check.test("promises 29 to 32: exceptions", PredictionTests::exceptions);
        Check.test("promises 24, 29 to 32: nothing changes", PredictionTests::nothingChanges);
    }

    private static void doneIn() {
        PermitPark park = Parks.of("thread 3: run 2; thread 2: nap 5; thread 1: run 1; thread 1: park; thread 9: unlock 0;");
        // The fault at 0, 0 runs at 1 and 2, 1 parks at 3 until 8, 2 runs at 4, 3 parks at 5.
        Check.due("doneIn(0, 3)", park.doneIn(0, 3), 3);
        Check.due("doneIn(0, 2)", park.doneIn(0, 2), -1);
        Check.due("doneIn(1, 500)", park.doneIn(1, 500), 9);
        Check.due("doneIn(1, 8)", park.doneIn(1, 8), -1);
        Check.due("doneIn(2, 500)", park.doneIn(2, 500), 5);
        Check.due("doneIn(3, 500)", park.doneIn(3, 500), -1);
        Check.due("doneIn(4, 500)", park.doneIn(4, 500), -1);
        park.run(3);
        Check.due("doneIn(0, 1)", park.doneIn(0, 1), 0);
        Check.due("doneIn(1, 500)", park.doneIn(1, 500), 6);
        PermitPark far = Parks.of("thread 1: nap 200, nap 200, nap 99;");
        Check.due("doneIn(0, 499)", far.doneIn(0, 499), -1);
        Check.due("doneIn(0, 500)", far.doneIn(0, 500), 500);
    }

    private static void returnsIn() {
        PermitPark park = Parks.of("thread 3: nap 3, nap 4, park; thread 2: park; thread 1: nap 9, wake 1;");
        Check.due("returnsIn(0, 500)", park.returnsIn(0, 500), 4);
        Check.due("returnsIn(0, 3)", park.returnsIn(0, 3), -1);
        Check.due("returnsIn(0, 4)", park.returnsIn(0, 4), 4);
        // The thread 2 naps at 2 until 11 and wakes 1 then.
        Check.due("by another thread", park.returnsIn(1, 500), 12);
        Check.due("returnsIn(2, 500)", park.returnsIn(2, 500), 12);
        park.run(4);
        Check.due("the next time", park.returnsIn(0, 500), 4);
        park.run(4);
        Check.due("never", park.returnsIn(0, 500), -1);
        PermitPark soon = Parks.of("thread 1: nap 1;");
        soon.run(1);
        Check.due("returnsIn(0, 1)", soon.returnsIn(0, 1), 1);
        PermitPark atOnce = Parks.of("thread 1: park, nap 2;");
        atOnce.wake(0);
        Check.due("to go on at once is no return", atOnce.returnsIn(0, 500), 4);
    }

    private static void ahead() {
        PermitPark park = Parks.of("thread 3: nap 3, run 1; thread 2: nap 2; thread 1: unlock 0;");
        // 0 parks, 1 parks, 2 is faulty; at 3 both return, 1 is done, and 0 runs.
        int[][] due = {{0, 0, 0, 1}, {0, 0, 0, 2}, {0, 0, 0, 3}, {2, 0, 2, 7}, {2, 1, 2, 7}};
        for (int ticks = 1; ticks <= 5; ticks++) {
            for (int what = 0; what < 4; what++) {
                Check.due("ahead(" + ticks + ", " + what + ")", park.ahead(ticks, what), due[ticks - 1][what]);
            }
        }
        Check.due("ahead(500, 1)", park.ahead(500, 1), 496);
        park.run(5);
        Check.due("done ones count", park.ahead(1, 0), 2);
        Check.due("idle ticks in these", park.ahead(2, 1), 2);
        Check.due("returns in these", park.ahead(2, 2), 0);
        Check.due("events in these", park.ahead(2, 3), 0);
    }

    private static void manyEvents() {
        PermitPark park = Parks.of("thread 1: await 0; thread 1: await 0; thread 1: await 0; set 0 1000;");
        // One event at 0; then at each tick all that are parked return, and one parks.
        Check.due("ahead(1, 3)", park.ahead(1, 3), 1);
        Check.due("ahead(2, 3)", park.ahead(2, 3), 3);
        Check.due("ahead(500, 3)", park.ahead(500, 3), 999);
        Check.due("ahead(500, 2)", park.ahead(500, 2), 499);
        park.run(500);
        Check.due("events", park.count(13), 40);
        Check.due("ahead(500, 3)", park.ahead(500, 3), 1000);
    }

    private static void bestBase() {
        PermitPark park = Parks.of("thread 3: run 4; thread 5: run 4; thread 7: run 4;");
        Check.due("bestBase(0, 200)", park.bestBase(0, 200), 8);
        Check.due("bestBase(0, 4)", park.bestBase(0, 4), 8);
        Check.due("bestBase(0, 3)", park.bestBase(0, 3), -1);
        Check.due("bestBase(1, 200)", park.bestBase(1, 200), 8);
        Check.due("bestBase(2, 200)", park.bestBase(2, 200), 6);
        Check.due("BASE", park.thread(0, 0), 3);
        PermitPark alone = Parks.of("thread 9: run 4; thread 1: park;");
        Check.due("with 1 the other one has a turn", alone.bestBase(0, 200), 2);
        Check.due("of several the least", alone.bestBase(0, 4), 2);
        Check.due("with none", alone.bestBase(1, 200), -1);
        alone.run(5);
        Check.due("done now", alone.bestBase(0, 1), 1);
        // As long as 0 runs ahead of 1, the flag is off when it looks, and it parks for ever.
        PermitPark low = Parks.of("thread 9: await 0, run 1; thread 5: set 0;");
        Check.due("a low one is best", low.bestBase(0, 200), 1);
        PermitPark far = Parks.of("thread 1: run 20, run 20, run 20, run 20, run 20, run 20, run 20, run 20, run 20, run 19;"
            + "thread 5: run 1;");
        Check.due("behind 199 ticks", far.bestBase(0, 200), 6);
        Check.due("behind 199 ticks", far.bestBase(0, 199), 6);
        Check.due("behind 199 ticks", far.bestBase(0, 198), -1);
        // 5 too: the thread 0 has the lower number, but both never ran; it runs first and is done behind 1 tick.
        PermitPark tie = Parks.of("thread 1: run 1; thread 5: run 1;");
        Check.due("as great as another", tie.bestBase(0, 200), 5);
        PermitPark high = Parks.of("thread 9: run 20; thread 8: run 5;");
        Check.due("with 9 in turns", high.bestBase(1, 200), 9);
        Check.due("only with 9", high.bestBase(1, 10), 9);
        Check.due("not within so many", high.bestBase(1, 9), -1);
        Check.due("greater than another", tie.bestBase(1, 200), 2);
    }

    private static void draws() {
        String setup = "thread 3: park, nap 9, run 2; thread 2: await 1, run 5; thread 5: lock 0, nap 20, park;"
            + "thread 6: nap 3, lock 0, wake 1, run 4; set 0 90; seed 4711;";
        PermitPark park = Parks.of(setup);
        for (int ticks = 1; ticks <= 60; ticks++) {
            PermitPark other = Parks.of(setup);
            int idleTicks = other.count(12);
            other.run(ticks);
            Check.due("ahead(" + ticks + ", 0)", park.ahead(ticks, 0), other.count(8));
            Check.due("ahead(" + ticks + ", 1)", park.ahead(ticks, 1), other.count(12) - idleTicks);
            int returns = 0;
            for (int i = 0; i < 4; i++) {
                for (int what = 13; what <= 16; what++) {
                    returns += other.thread(i, what);
                }
                boolean isDone = other.thread(i, 2) == 3;
                Check.due("doneIn(" + i + ", " + ticks + ")", park.doneIn(i, ticks) >= 0, isDone);
            }
            Check.due("ahead(" + ticks + ", 2)", park.ahead(ticks, 2), returns);
        }
        Check.due("x", park.count(4), 4711);
    }

    private static void exceptions() {
        PermitPark park = Parks.of("thread 1: run 5;");
        for (int wrong : new int[] {0, -1, 501, FAR[0], FAR[1]}) {
            Check.dueThrow("doneIn(0, " + wrong + ")", ARGUMENT, () -> park.doneIn(0, wrong));
            Check.dueThrow("returnsIn(0, " + wrong + ")", ARGUMENT, () -> park.returnsIn(0, wrong));
            Check.dueThrow("ahead(" + wrong + ", 0)", ARGUMENT, () -> park.ahead(wrong, 0));
            Check.dueThrow("bestBase(0, " + wrong + ")", ARGUMENT, () -> park.bestBase(0, wrong));
            Check.dueThrow("doneIn(1, " + wrong + ")", INDEX, () -> park.doneIn(1, wrong));
            Check.dueThrow("returnsIn(1, " + wrong + ")", INDEX, () -> park.returnsIn(1, wrong));
            Check.dueThrow("bestBase(1, " + wrong + ")", INDEX, () -> park.bestBase(1, wrong));
        }
        Check.dueThrow("bestBase(0, 201)", ARGUMENT, () -> park.bestBase(0, 201));
        Check.due("bestBase(0, 200)", park.bestBase(0, 200), 1);
        Check.due("doneIn(0, 500)", park.doneIn(0, 500), 5);
        Check.due("returnsIn(0, 500)", park.returnsIn(0, 500), -1);
        for (int wrong : new int[] {-1, 1, 10, FAR[0], FAR[1]}) {
            Check.dueThrow("doneIn(" + wrong + ", 1)", INDEX, () -> park.doneIn(wrong, 1));
            Check.dueThrow("returnsIn(" + wrong + ", 1)", INDEX, () -> park.returnsIn(wrong, 1));
            Check.dueThrow("bestBase(" + wrong + ", 1)", INDEX, () -> park.bestBase(wrong, 1));
        }
        for (int wrong : new int[] {-1, 4, FAR[0], FAR[1]}) {
            Check.dueThrow("ahead(1, " + wrong + ")", ARGUMENT, () -> park.ahead(1, wrong));
        }
    }

    private static PermitPark lively() {
        PermitPark park = Parks.of("thread 3: lock 0, wake 1, nap 3, run 5; thread 2: park, lock 0, clear 4;"
            + "thread 4: await 4, steal 0; flag 2; set 0 100; seed 99;");
        park.run(5);
        return park;
    }

    private static void nothingChanges() {
        PermitPark park = lively();
        park.next();
        park.doneIn(0, 500);
        park.doneIn(1, 1);
        park.returnsIn(1, 500);
        park.ahead(500, 0);
        park.ahead(20, 3);
        park.bestBase(0, 200);
        park.bestBase(2, 200);
        Check.dueText("all", Parks.all(park), Parks.all(lively()));
        park.run(7);
        PermitPark same = lively();
        same.run(7);
        Check.dueText("all, later", Parks.all(park), Parks.all(same));
    }
}
