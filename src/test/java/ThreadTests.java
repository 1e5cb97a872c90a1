/** Promises 7 to 12: threads, instructions, BASE priorities, settings, x, flags. */
final class ThreadTests {
    private static final Class<? extends RuntimeException> INDEX = IndexOutOfBoundsException.class;
    private static final Class<? extends RuntimeException> ARGUMENT = IllegalArgumentException.class;
    private static final Class<? extends RuntimeException> STATE = IllegalStateException.class;
    private static final int[] LEAST = {1, 0, 1, 0, 0, 0, 0, 0, 0, 0, 0};
    private static final int[] MOST = {20, 0, 200, 7, 7, 7, 9, 9, 9, 5, 5};
    private static final int[] FAR = {Integer.MIN_VALUE, Integer.MAX_VALUE};

    private ThreadTests() {
    }

    static void run() {
        Check.test("promise 7: addThread", ThreadTests::addThread);
        Check.test("promise 7: ranges", ThreadTests::threadRanges);
        Check.test("promise 7: 10 threads", ThreadTests::tenThreads);
        Check.test("promise 8: addInstruction", ThreadTests::addInstruction);
        Check.test("promise 8: exceptions", ThreadTests::instructionExceptions);
        Check.test("promise 8: to a thread that is parked at its end", ThreadTests::addToParked);
        Check.test("promise 9: setBase", ThreadTests::setBase);
        Check.test("promise 10: set", ThreadTests::set);
        Check.test("promise 11: seed", ThreadTests::seed);
        Check.test("promise 12: setFlag", ThreadTests::setFlag);
        Check.test("promises 7 to 12: a call that throws changes nothing", ThreadTests::nothingChanged);
    }

    private static void addThread() {
        PermitPark park = new PermitPark();
        Check.due("addThread(9, 2, 200)", park.addThread(9, 2, 200), 0);
        park.run(1);
        Check.due("addThread(1, 1, 0)", park.addThread(1, 1, 0), 1);
        int[] due = {1, 1, 0, 0, 0, 0, 0, -1, -1, 0, 0, -1, 0, 0, 0, 0, 0, 1, 1};
        for (int what = 0; what < due.length; what++) {
            Check.due("thread(1, " + what + ")", park.thread(1, what), due[what]);
        }
        Check.due("instruction(0, 0, 0)", park.instruction(0, 0, 0), 2);
        Check.due("instruction(0, 0, 1)", park.instruction(0, 0, 1), 200);
        Check.due("instruction(1, 0, 0)", park.instruction(1, 0, 0), 1);
        Check.due("instruction(1, 0, 1)", park.instruction(1, 0, 1), 0);
        Check.due("events", park.count(13), 1);
    }

    private static void threadRanges() {
        for (int code = 0; code <= 10; code++) {
            PermitPark park = new PermitPark();
            int c = code;
            Check.due("addThread least", park.addThread(1, code, LEAST[code]), 0);
            Check.due("addThread most", park.addThread(9, code, MOST[code]), 1);
            for (int wrong : new int[] {LEAST[code] - 1, MOST[code] + 1, FAR[0], FAR[1]}) {
                Check.dueThrow("addThread(1, " + code + ", " + wrong + ")", ARGUMENT, () -> park.addThread(1, c, wrong));
                Check.dueThrow("addInstruction(0, " + code + ", " + wrong + ")", ARGUMENT,
                    () -> park.addInstruction(0, c, wrong));
            }
            Check.due("addInstruction least", park.addInstruction(0, code, LEAST[code]), 2);
            Check.due("addInstruction most", park.addInstruction(0, code, MOST[code]), 3);
            for (int wrong : new int[] {0, 10, -1, FAR[0], FAR[1]}) {
                Check.dueThrow("addThread(" + wrong + ", ..)", ARGUMENT, () -> park.addThread(wrong, c, LEAST[c]));
            }
        }
        PermitPark park = Parks.of("thread 1: run 1;");
        for (int wrong : new int[] {-1, 11, FAR[0], FAR[1]}) {
            Check.dueThrow("addThread(1, " + wrong + ", 1)", ARGUMENT, () -> park.addThread(1, wrong, 1));
            Check.dueThrow("addInstruction(0, " + wrong + ", 1)", ARGUMENT, () -> park.addInstruction(0, wrong, 1));
        }
    }

    private static void tenThreads() {
        PermitPark park = new PermitPark();
        for (int i = 0; i < 10; i++) {
            Check.due("addThread", park.addThread(1 + i % 9, 0, 1 + i), i);
        }
        Check.dueThrow("addThread of an 11th", STATE, () -> park.addThread(1, 0, 1));
        Check.dueThrow("wrong base ahead of full", ARGUMENT, () -> park.addThread(0, 0, 1));
        Check.dueThrow("wrong code ahead of full", ARGUMENT, () -> park.addThread(1, 11, 1));
        Check.dueThrow("wrong number ahead of full", ARGUMENT, () -> park.addThread(1, 0, 21));
        park.run(100);
        Check.dueThrow("addThread of an 11th, all done", STATE, () -> park.addThread(1, 0, 1));
        Check.due("threads", park.count(2), 10);
    }

    private static void addInstruction() {
        PermitPark park = Parks.of("thread 1: run 2; thread 1: park;");
        for (int i = 2; i <= 16; i++) {
            Check.due("addInstruction", park.addInstruction(0, 0, i), i);
        }
        Check.dueThrow("addInstruction of a 17th", STATE, () -> park.addInstruction(0, 0, 1));
        for (int i = 1; i < 16; i++) {
            Check.due("number", park.instruction(0, i, 1), i + 1);
        }
        Check.due("instructions", park.thread(0, 18), 16);
        Check.due("instructions of the other", park.thread(1, 18), 1);
    }

    private static void instructionExceptions() {
        PermitPark park = Parks.of("thread 9: run 1; thread 8: unlock 0; thread 7: run 1; thread 6: run 1;");
        for (int i = 0; i < 15; i++) {
            park.addInstruction(2, 1, 0);
        }
        park.run(2);
        Check.dueThrow("addInstruction to a done one", STATE, () -> park.addInstruction(0, 0, 1));
        Check.dueThrow("addInstruction to a faulty one", STATE, () -> park.addInstruction(1, 0, 1));
        Check.dueThrow("addInstruction to a full one", STATE, () -> park.addInstruction(2, 0, 1));
        Check.dueThrow("code ahead of done", ARGUMENT, () -> park.addInstruction(0, 11, 1));
        Check.dueThrow("number ahead of faulty", ARGUMENT, () -> park.addInstruction(1, 0, 0));
        Check.dueThrow("number ahead of full", ARGUMENT, () -> park.addInstruction(2, 1, 1));
        for (int wrong : new int[] {-1, 4, 10, FAR[0], FAR[1]}) {
            Check.dueThrow("no such thread", INDEX, () -> park.addInstruction(wrong, 0, 1));
            Check.dueThrow("thread ahead of code", INDEX, () -> park.addInstruction(wrong, -1, 1));
        }
        Check.due("addInstruction to a ready one", park.addInstruction(3, 0, 1), 2);
    }

    private static void addToParked() {
        PermitPark park = Parks.of("thread 1: park;");
        park.run(1);
        Check.due("place", park.thread(0, 3), 1);
        Check.due("addInstruction", park.addInstruction(0, 0, 1), 2);
        Check.due("wake(0)", park.wake(0), 0);
        Check.due("state", park.thread(0, 2), 0);
        Check.due("run(1)", park.run(1), 1);
        Check.due("state", park.thread(0, 2), 3);
    }

    private static void setBase() {
        PermitPark park = Parks.of("thread 3: run 1; thread 4: run 1;");
        Check.due("setBase(0, 9)", park.setBase(0, 9), 3);
        Check.due("setBase(0, 1)", park.setBase(0, 1), 9);
        Check.due("setBase(0, 5)", park.setBase(0, 5), 1);
        Check.due("BASE", park.thread(0, 0), 5);
        Check.due("priority", park.thread(0, 1), 5);
        Check.due("greatest ahead of the first tick", park.thread(0, 17), 5);
        Check.due("next()", park.next(), 0);
        Check.due("BASE of the other", park.thread(1, 0), 4);
        park.run(1);
        park.setBase(0, 2);
        Check.due("setBase of a done one", park.setBase(0, 7), 2);
        for (int wrong : new int[] {0, 10, -1, FAR[0], FAR[1]}) {
            Check.dueThrow("setBase(0, " + wrong + ")", ARGUMENT, () -> park.setBase(0, wrong));
        }
        for (int wrong : new int[] {-1, 2, FAR[0], FAR[1]}) {
            Check.dueThrow("setBase(" + wrong + ", 1)", INDEX, () -> park.setBase(wrong, 1));
            Check.dueThrow("setBase(" + wrong + ", 0)", INDEX, () -> park.setBase(wrong, 0));
        }
    }

    private static void set() {
        PermitPark park = new PermitPark();
        Check.due("set(0, 1000)", park.set(0, 1000), 0);
        Check.due("set(0, 7)", park.set(0, 7), 1000);
        Check.due("set(1, 0)", park.set(1, 0), 1);
        Check.due("set(1, 1)", park.set(1, 1), 0);
        Check.due("SPURIOUS", park.count(0), 7);
        Check.due("LENDING", park.count(1), 1);
        int[][] wrongs = {{-1, 0}, {2, 0}, {0, -1}, {0, 1001}, {1, -1}, {1, 2}, {FAR[0], 0}, {FAR[1], 0}, {0, FAR[1]}};
        for (int[] wrong : wrongs) {
            Check.dueThrow("set(" + wrong[0] + ", " + wrong[1] + ")", ARGUMENT, () -> park.set(wrong[0], wrong[1]));
        }
        Check.due("SPURIOUS", park.count(0), 7);
    }

    private static void seed() {
        PermitPark park = Parks.of("thread 1: park; thread 1: park; set 0 1;");
        park.run(2);
        Check.due("x behind one draw", park.count(4), 13448);
        for (int x : new int[] {0, 1000002, 500}) {
            park.seed(x);
            Check.due("x", park.count(4), x);
        }
        for (int wrong : new int[] {-1, 1000003, FAR[0], FAR[1]}) {
            Check.dueThrow("seed(" + wrong + ")", ARGUMENT, () -> { park.seed(wrong); return 0; });
        }
        Check.due("x", park.count(4), 500);
        park.seed(1000002);
        park.run(1);
        // -1 becomes 12345 - 1103, then 1103 * 11242 + 12345 = 12412271 = 12 * 1000003 + 412235
        Check.due("x behind two draws", park.count(4), 412235);
    }

    private static void setFlag() {
        PermitPark park = Parks.of("thread 1: await 7;");
        park.run(1);
        Check.due("setFlag(7, true)", park.setFlag(7, true), false);
        Check.due("setFlag(7, true)", park.setFlag(7, true), true);
        Check.due("no thread returns by it", park.thread(0, 2), 1);
        Check.due("setFlag(0, true)", park.setFlag(0, true), false);
        Check.due("count(10)", park.count(10), 129);
        Check.due("setFlag(7, false)", park.setFlag(7, false), true);
        Check.due("setFlag(7, false)", park.setFlag(7, false), false);
        Check.due("count(10)", park.count(10), 1);
        for (int wrong : new int[] {-1, 8, 32, FAR[0], FAR[1]}) {
            Check.dueThrow("setFlag(" + wrong + ")", INDEX, () -> park.setFlag(wrong, true) ? 1 : 0);
        }
        Check.due("events", park.count(13), 1);
    }

    private static PermitPark busyOne() {
        PermitPark park = Parks.of("thread 3: lock 1, wake 1, run 5; thread 2: park; flag 2; seed 77;");
        park.run(4);
        return park;
    }

    private static void nothingChanged() {
        PermitPark park = busyOne();
        Check.dueThrow("addThread", ARGUMENT, () -> park.addThread(1, 0, 0));
        Check.dueThrow("addInstruction", INDEX, () -> park.addInstruction(2, 0, 1));
        Check.dueThrow("addInstruction", ARGUMENT, () -> park.addInstruction(0, 0, 21));
        Check.dueThrow("setBase", ARGUMENT, () -> park.setBase(0, 0));
        Check.dueThrow("set", ARGUMENT, () -> park.set(0, 1001));
        Check.dueThrow("seed", ARGUMENT, () -> { park.seed(-1); return 0; });
        Check.dueThrow("setFlag", INDEX, () -> park.setFlag(-1, true) ? 1 : 0);
        Check.dueThrow("wake", INDEX, () -> park.wake(2));
        Check.dueThrow("interrupt", INDEX, () -> park.interrupt(-1));
        Check.dueThrow("rouse", INDEX, () -> park.rouse(2) ? 1 : 0);
        Check.dueThrow("run", ARGUMENT, () -> park.run(501));
        Check.dueThrow("save", ARGUMENT, () -> { park.save(2); return 0; });
        Check.dueThrow("restore", STATE, () -> { park.restore(1); return 0; });
        Check.dueThrow("truncateText", ARGUMENT, () -> park.truncateText(1));
        Check.dueText("all", Parks.all(park), Parks.all(busyOne()));
    }
}
