/** Promises 33 and 34: saved states. */
final class SavedTests {
    private static final Class<? extends RuntimeException> ARGUMENT = IllegalArgumentException.class;
    private static final Class<? extends RuntimeException> STATE = IllegalStateException.class;
    private static final int[] WRONG_SLOTS = {-1, 2, Integer.MIN_VALUE, Integer.MAX_VALUE};

    private SavedTests() {
    }

    static void run() {
        Check.test("promises 33, 34: all comes back", SavedTests::allComesBack);
        Check.test("promises 33, 34: all goes on as it would have", SavedTests::goesOn);
        Check.test("promises 33, 34: all counters", SavedTests::counters);
        Check.test("promises 33, 34: the two slots", SavedTests::slots);
        Check.test("promises 33, 34: not the text, not the error", SavedTests::textAndError);
        Check.test("promises 33, 34: exceptions", SavedTests::exceptions);
    }

    private static PermitPark lively() {
        PermitPark park = Parks.of("thread 3: lock 0, wake 1, run 3, nap 3, run 5; thread 2: park, lock 0, clear 4;"
            + "thread 4: await 4, steal 0; flag 2; flag 6; set 0 100; set 1 0; seed 99;");
        park.run(4);
        park.interrupt(0);
        park.wake(0);
        park.wake(0);
        return park;
    }

    private static void allComesBack() {
        PermitPark park = lively();
        park.save(0);
        park.run(9);
        park.setBase(0, 9);
        park.set(0, 0);
        park.set(1, 1);
        park.seed(5);
        park.setFlag(1, true);
        park.addThread(3, 1, 0);
        park.addThread(3, 1, 0);
        park.run(3);
        park.wake(1);
        park.restore(0);
        Check.dueText("all", Parks.all(park), Parks.all(lively()));
    }

    private static void goesOn() {
        PermitPark park = lively();
        park.save(1);
        park.run(50);
        park.restore(1);
        PermitPark same = lively();
        park.run(3);
        same.run(3);
        Check.dueText("all", Parks.all(park), Parks.all(same));
        park.restore(1);
        Check.due("addThread", park.addThread(9, 1, 0), 3);
        Check.due("of a new thread", park.thread(3, 10) + park.thread(3, 12), 0);
    }

    private static void counters() {
        String setup = "thread 9: park, tell 1, steal 1, steal 1, run 1; thread 2: run 9; thread 9: run 1;";
        PermitPark park = Parks.of(setup);
        PermitPark same = Parks.of(setup);
        for (PermitPark one : new PermitPark[] {park, same}) {
            one.wake(0);
            one.wake(0);
            one.run(4);
            one.wake(2);
        }
        for (int what = 14; what <= 17; what++) {
            Check.due("count(" + what + ")", park.count(what), 1);
        }
        park.save(0);
        Parks.load(park, "thread 1: park;");
        park.restore(0);
        Check.dueText("all", Parks.all(park), Parks.all(same));
    }

    private static void slots() {
        PermitPark park = Parks.of("thread 1: run 9;");
        park.save(0);
        park.run(2);
        park.save(1);
        park.run(3);
        park.restore(0);
        Check.due("time", park.count(3), 0);
        park.restore(1);
        Check.due("time", park.count(3), 2);
        park.run(1);
        park.save(0);
        park.restore(1);
        Check.due("time", park.count(3), 2);
        park.restore(0);
        Check.due("replaced", park.count(3), 3);
        park.run(4);
        park.restore(0);
        Check.due("stays saved", park.count(3), 3);
        park.run(4);
        park.restore(0);
        Check.due("stays saved", park.count(3), 3);
        park.load();
        park.restore(0);
        Check.due("stays saved behind load()", park.thread(0, 10), 3);
        PermitPark none = new PermitPark();
        none.save(1);
        Parks.load(none, "thread 1: run 1;");
        none.restore(1);
        Check.due("threads", none.count(2), 0);
        Check.dueThrow("restore(0)", STATE, () -> { none.restore(0); return 0; });
    }

    private static void textAndError() {
        PermitPark park = new PermitPark();
        park.save(0);
        Parks.load(park, " ;");
        park.save(1);
        Parks.write(park, "flag");
        park.restore(0);
        Check.due("errorCode()", park.errorCode(), 1);
        Check.due("errorPosition()", park.errorPosition(), 1);
        Parks.load(park, " 3;");
        Check.due("flags", park.count(10), 8);
        park.restore(1);
        Check.due("errorCode()", park.errorCode(), 0);
        Check.due("errorPosition()", park.errorPosition(), -1);
        Check.due("flags", park.count(10), 0);
        Parks.load(park, "flag 3;");
        Check.due("flags", park.count(10), 8);
        Check.due("errorCode()", park.errorCode(), 0);
    }

    private static void exceptions() {
        PermitPark park = Parks.of("thread 1: run 9;");
        for (int wrong : WRONG_SLOTS) {
            Check.dueThrow("save(" + wrong + ")", ARGUMENT, () -> { park.save(wrong); return 0; });
            Check.dueThrow("restore(" + wrong + ")", ARGUMENT, () -> { park.restore(wrong); return 0; });
        }
        Check.dueThrow("restore(0)", STATE, () -> { park.restore(0); return 0; });
        Check.dueThrow("restore(1)", STATE, () -> { park.restore(1); return 0; });
        park.save(1);
        Check.dueThrow("restore(0)", STATE, () -> { park.restore(0); return 0; });
        park.restore(1);
    }
}
