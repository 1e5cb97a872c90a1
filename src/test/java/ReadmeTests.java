/** The calls that README.md shows, with the answers that it tells. */
final class ReadmeTests {
    private static final Class<? extends RuntimeException> INDEX = IndexOutOfBoundsException.class;
    private static final Class<? extends RuntimeException> ARGUMENT = IllegalArgumentException.class;
    private static final Class<? extends RuntimeException> STATE = IllegalStateException.class;
    private static final String SETUP = "thread 2: lock 0, run 3, unlock 0;\nthread 5: nap 3, run 9;\n"
        + "thread 9: nap 4, lock 0, run 1, unlock 0;\nflag 1; set 0 0; seed 17;\n";

    private ReadmeTests() {
    }

    static void run() {
        Check.test("README: threads and instructions", ReadmeTests::threads);
        Check.test("README: setup texts", ReadmeTests::setupTexts);
        Check.test("README: acts from outside", ReadmeTests::acts);
        Check.test("README: time", ReadmeTests::time);
        Check.test("README: what follows", ReadmeTests::follows);
        Check.test("README: predictions", ReadmeTests::predictions);
        Check.test("README: saved states", ReadmeTests::saved);
        Check.test("README: exceptions", ReadmeTests::exceptions);
    }

    private static PermitPark atFive() {
        PermitPark park = Parks.of(SETUP);
        park.run(5);
        return park;
    }

    private static void threads() {
        PermitPark park = new PermitPark();
        Check.due("addThread(5, 1, 0)", park.addThread(5, 1, 0), 0);
        Check.due("addInstruction(0, 0, 2)", park.addInstruction(0, 0, 2), 2);
    }

    private static void setupTexts() {
        PermitPark park = new PermitPark();
        byte[] bytes = SETUP.getBytes(java.nio.charset.StandardCharsets.US_ASCII);
        for (int i = 0; i < bytes.length; i += 4) {
            int fourBytes = 0;
            for (int k = 0; k < 4; k++) {
                fourBytes = fourBytes << 8 | (i + k < bytes.length ? bytes[i + k] : ' ');
            }
            Check.due("appendText", park.appendText(fourBytes), i + 4);
        }
        Check.due("truncateText", park.truncateText(bytes.length), bytes.length);
        Check.due("load()", park.load(), 3);
        Check.due("errorCode()", park.errorCode(), 0);
        Check.due("errorPosition()", park.errorPosition(), PermitPark.NONE);
        Check.due("flag(1)", park.flag(1), true);
        Check.due("x", park.count(4), 17);
    }

    private static void acts() {
        PermitPark park = Parks.of("thread 1: park, run 1;");
        Check.due("interrupt of a ready one", park.interrupt(0), 1);
        Check.due("interrupt again", park.interrupt(0), 2);
        park.run(1);
        Check.due("done by the second tick", park.run(1), 1);
        Check.due("interrupt of a done one", park.interrupt(0), 3);
        Check.due("wake of a done one", park.wake(0), 3);
        park.load();
        park.addThread(1, 1, 0);
        park.addInstruction(0, 1, 0);
        park.addInstruction(0, 0, 1);
        Check.due("rouse of a ready one", park.rouse(0), false);
        Check.due("wake of a ready one", park.wake(0), 1);
        Check.due("wake again", park.wake(0), 2);
        park.run(2);
        Check.due("rouse of a parked one", park.rouse(0), true);
        Check.due("ready again", park.thread(0, 2), 0);
    }

    private static void time() {
        PermitPark park = Parks.of(SETUP);
        Check.due("next()", park.next(), 2);
        Check.due("run(5)", park.run(5), 0);
        Check.due("count(3)", park.count(3), 5);
        Check.due("thread(2, 2)", park.thread(2, 2), 2);
        Check.due("thread(2, 8)", park.thread(2, 8), 0);
        Check.due("lock(0, 0)", park.lock(0, 0), 0);
        Check.due("thread(0, 1)", park.thread(0, 1), 9);
        Check.due("next()", park.next(), 0);
    }

    private static void follows() {
        PermitPark park = atFive();
        Check.due("chain(2, 0)", park.chain(2, 0), 0);
        Check.due("chain(2, 1)", park.chain(2, 1), PermitPark.NONE);
        Check.dueReal("lent(0)", park.lent(0), 4.5f);
        Check.due("stuck()", park.stuck(), 0);
        Check.dueReal("busy()", park.busy(), 1.0);
    }

    private static void predictions() {
        PermitPark park = atFive();
        Check.due("doneIn(2, 500)", park.doneIn(2, 500), 5);
        Check.due("returnsIn(2, 500)", park.returnsIn(2, 500), PermitPark.NONE);
        Check.due("ahead(20, 0)", park.ahead(20, 0), 3);
        Check.due("ahead(20, 1)", park.ahead(20, 1), 6);
        Check.due("bestBase(2, 200)", park.bestBase(2, 200), 6);
        Check.due("nothing changed", park.count(3), 5);
    }

    private static void saved() {
        PermitPark park = atFive();
        park.save(1);
        park.run(500);
        park.restore(1);
        Check.due("count(3)", park.count(3), 5);
        park.restore(1);
        Check.due("it stays saved", park.count(3), 5);
    }

    /** Each row of the table of exceptions, from its rightmost cell to its leftmost one. */
    private static void exceptions() {
        PermitPark park = atFive();
        Check.dueThrow("addThread", ARGUMENT, () -> park.addThread(0, 0, 1));
        Check.dueThrow("addInstruction", ARGUMENT, () -> park.addInstruction(0, 0, 0));
        Check.dueThrow("addInstruction", INDEX, () -> park.addInstruction(3, 0, 0));
        Check.dueThrow("setBase", ARGUMENT, () -> park.setBase(0, 0));
        Check.dueThrow("setBase", INDEX, () -> park.setBase(3, 0));
        Check.dueThrow("set", ARGUMENT, () -> park.set(0, 1001));
        Check.dueThrow("seed", ARGUMENT, () -> { park.seed(1000003); return 0; });
        Check.dueThrow("setFlag", INDEX, () -> park.setFlag(8, true) ? 1 : 0);
        Check.dueThrow("flag", INDEX, () -> park.flag(8) ? 1 : 0);
        Check.dueThrow("count", ARGUMENT, () -> park.count(18));
        Check.dueThrow("thread", ARGUMENT, () -> park.thread(0, 19));
        Check.dueThrow("thread", INDEX, () -> park.thread(3, 19));
        Check.dueThrow("instruction", ARGUMENT, () -> park.instruction(0, 2, 2));
        Check.dueThrow("instruction", INDEX, () -> park.instruction(0, 3, 2));
        Check.dueThrow("lock", INDEX, () -> park.lock(0, -1));
        Check.dueThrow("event", ARGUMENT, () -> park.event(0, 4));
        Check.dueThrow("event", INDEX, () -> park.event(40, 4));
        Check.dueThrow("events", ARGUMENT, () -> park.events(10, PermitPark.NONE));
        Check.dueThrow("events", INDEX, () -> park.events(10, 3));
        Check.dueThrow("wake", INDEX, () -> park.wake(3));
        Check.dueThrow("interrupt", INDEX, () -> park.interrupt(3));
        Check.dueThrow("rouse", INDEX, () -> park.rouse(3) ? 1 : 0);
        Check.dueThrow("lent", INDEX, () -> (long) park.lent(3));
        Check.dueThrow("run", ARGUMENT, () -> park.run(501));
        Check.dueThrow("chain", INDEX, () -> park.chain(0, -1));
        Check.dueThrow("doneIn", ARGUMENT, () -> park.doneIn(0, 501));
        Check.dueThrow("doneIn", INDEX, () -> park.doneIn(3, 501));
        Check.dueThrow("returnsIn", ARGUMENT, () -> park.returnsIn(0, 501));
        Check.dueThrow("returnsIn", INDEX, () -> park.returnsIn(3, 501));
        Check.dueThrow("bestBase", ARGUMENT, () -> park.bestBase(0, 201));
        Check.dueThrow("bestBase", INDEX, () -> park.bestBase(3, 201));
        Check.dueThrow("ahead", ARGUMENT, () -> park.ahead(1, 4));
        Check.dueThrow("save", ARGUMENT, () -> { park.save(2); return 0; });
        Check.dueThrow("restore", STATE, () -> { park.restore(1); return 0; });
        Check.dueThrow("restore", ARGUMENT, () -> { park.restore(2); return 0; });
        Check.dueThrow("truncateText", ARGUMENT, () -> park.truncateText(1));
        Check.dueThrow("appendText", STATE, () -> overFull(park));
    }

    private static long overFull(PermitPark park) {
        for (int i = 0; i < 200; i++) {
            park.appendText(0);
        }
        return park.appendText(0);
    }
}
