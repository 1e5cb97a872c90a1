/** Boundary cases of promises 7 to 12: threads, instructions, BASE, settings, x, flags; a test for each sentence. */
final class EdgeThreadTests {
    private static final int[] LEAST = {1, 0, 1, 0, 0, 0, 0, 0, 0, 0, 0};
    private static final int[] MOST = {20, 0, 200, 7, 7, 7, 9, 9, 9, 5, 5};

    private EdgeThreadTests() {
    }

    static void run() {
        Check.test("promise 7: base 1 to 9", EdgeThreadTests::baseRange);
        Check.test("promise 7: code 0 to 10", EdgeThreadTests::codeRange);
        Check.test("promise 7: its number, in the range of that instruction", EdgeThreadTests::numberRanges);
        Check.test("promise 7: 0 for park", EdgeThreadTests::parkNumber);
        Check.test("promise 7: the number of the thread, from 0", EdgeThreadTests::threadNumbers);
        Check.test("promise 7: if there are 10 threads", EdgeThreadTests::tenThreads);
        Check.test("promise 7: IllegalArgumentException comes first", EdgeThreadTests::argumentFirst);
        Check.test("promise 7: a ready thread, as at first", EdgeThreadTests::asAtFirst);
        Check.test("promise 7: a ready thread, added late", EdgeThreadTests::addedLate);
        Check.test("promise 7: a program of one instruction", EdgeThreadTests::oneInstruction);
        Check.test("promise 8: a thread", EdgeThreadTests::threadRange);
        Check.test("promise 8: code and number as for addThread()", EdgeThreadTests::stepRanges);
        Check.test("promise 8: if it has 16 instructions", EdgeThreadTests::sixteen);
        Check.test("promise 8: or is done", EdgeThreadTests::toDone);
        Check.test("promise 8: or faulty", EdgeThreadTests::toFaulty);
        Check.test("promise 8: not if it is ready, parked or blocked", EdgeThreadTests::toOthers);
        Check.test("promise 8: behind the last one of a thread that is parked there", EdgeThreadTests::toParkedAtItsEnd);
        Check.test("promise 8: the exceptions in their order", EdgeThreadTests::stepOrder);
        Check.test("promise 9: base 1 to 9", EdgeThreadTests::setBaseRange);
        Check.test("promise 9: a thread, the exceptions in their order", EdgeThreadTests::setBaseThread);
        Check.test("promise 9: the previous BASE", EdgeThreadTests::previousBase);
        Check.test("promise 9: of a thread in whatever state", EdgeThreadTests::setBaseInAllStates);
        Check.test("promise 10: what 0 or 1", EdgeThreadTests::whatRange);
        Check.test("promise 10: SPURIOUS 0 to 1000", EdgeThreadTests::spuriousRange);
        Check.test("promise 10: LENDING 0 or 1", EdgeThreadTests::lendingRange);
        Check.test("promise 10: the previous value, at first 0 and 1", EdgeThreadTests::previousValue);
        Check.test("promise 11: the new x, 0 to 1000002", EdgeThreadTests::seedRange);
        Check.test("promise 12: flag 0 to 7", EdgeThreadTests::flagRange);
        Check.test("promise 12: whether it was on before, at first not", EdgeThreadTests::wasOn);
        Check.test("promise 12: no thread returns by it", EdgeThreadTests::noThreadReturns);
    }

    private static void refusedArgument(String call, Edges.Act act) {
        Edges.refused(call, Edges.ARGUMENT, act);
    }

    // ---- promise 7

    private static void baseRange() {
        for (int base = 1; base <= 9; base++) {
            PermitPark park = new PermitPark();
            Check.due("addThread", park.addThread(base, 1, 0), 0);
            Check.due("BASE", park.thread(0, 0), base);
        }
        for (int base : new int[] {0, 10, -1, Edges.LEAST, Edges.MOST}) {
            refusedArgument("addThread(" + base + ", 1, 0)", park -> park.addThread(base, 1, 0));
        }
    }

    private static void codeRange() {
        for (int code = 0; code <= 10; code++) {
            PermitPark park = new PermitPark();
            Check.due("addThread", park.addThread(1, code, LEAST[code]), 0);
            Check.due("code", park.instruction(0, 0, 0), code);
        }
        for (int code : new int[] {-1, 11, Edges.LEAST, Edges.MOST}) {
            refusedArgument("addThread(1, " + code + ", 0)", park -> park.addThread(1, code, 0));
            refusedArgument("addThread(1, " + code + ", 1)", park -> park.addThread(1, code, 1));
        }
    }

    private static void numberRanges() {
        for (int code = 0; code <= 10; code++) {
            int c = code;
            for (int number : new int[] {LEAST[code], MOST[code]}) {
                PermitPark park = new PermitPark();
                Check.due("addThread", park.addThread(1, code, number), 0);
                Check.due("number", park.instruction(0, 0, 1), number);
            }
            for (int number : new int[] {LEAST[code] - 1, MOST[code] + 1, Edges.LEAST, Edges.MOST}) {
                refusedArgument("addThread(1, " + code + ", " + number + ")", park -> park.addThread(1, c, number));
            }
        }
    }

    private static void parkNumber() {
        PermitPark park = new PermitPark();
        Check.due("addThread(1, 1, 0)", park.addThread(1, 1, 0), 0);
        Check.due("number", park.instruction(0, 0, 1), 0);
        for (int number : new int[] {-1, 1, 2}) {
            refusedArgument("addThread(1, 1, " + number + ")", one -> one.addThread(1, 1, number));
        }
    }

    private static PermitPark threads(int number) {
        PermitPark park = new PermitPark();
        for (int i = 0; i < number; i++) {
            Check.due("addThread", park.addThread(1 + i % 9, 0, 1 + i), i);
        }
        return park;
    }

    private static void threadNumbers() {
        PermitPark park = threads(10);
        Check.due("threads", park.count(2), 10);
        Check.dueText("BASE", Parks.facts(park, 0), "1 2 3 4 5 6 7 8 9 1");
        for (int i = 0; i < 10; i++) {
            Check.due("number", park.instruction(i, 0, 1), i + 1);
        }
        Check.due("addThread behind a text", Parks.of("thread 1:park;thread 1:park;").addThread(1, 1, 0), 2);
    }

    private static void tenThreads() {
        Check.due("the 10th", threads(9).addThread(1, 0, 1), 9);
        Edges.refused("the 11th", Edges.STATE, () -> threads(10), park -> park.addThread(1, 0, 1));
        PermitPark done = threads(10);
        Check.due("run(100)", done.run(100), 10);
        Check.dueThrow("the 11th, all done", Edges.STATE, () -> done.addThread(1, 0, 1));
        Check.due("threads", done.count(2), 10);
        PermitPark loaded = Parks.of("thread 1:park;".repeat(10));
        Check.dueThrow("the 11th behind a text", Edges.STATE, () -> loaded.addThread(1, 1, 0));
        loaded.load();
        Check.due("the first behind an empty text", loaded.addThread(1, 1, 0), 0);
    }

    private static void argumentFirst() {
        Edges.refused("base 0", Edges.ARGUMENT, () -> threads(10), park -> park.addThread(0, 0, 1));
        Edges.refused("base 10", Edges.ARGUMENT, () -> threads(10), park -> park.addThread(10, 0, 1));
        Edges.refused("code 11", Edges.ARGUMENT, () -> threads(10), park -> park.addThread(1, 11, 1));
        Edges.refused("code -1", Edges.ARGUMENT, () -> threads(10), park -> park.addThread(1, -1, 1));
        Edges.refused("number 21", Edges.ARGUMENT, () -> threads(10), park -> park.addThread(1, 0, 21));
        Edges.refused("number 0", Edges.ARGUMENT, () -> threads(10), park -> park.addThread(1, 0, 0));
    }

    private static void asAtFirst() {
        int[] due = {6, 6, 0, 0, 0, 0, 0, -1, -1, 0, 0, -1, 0, 0, 0, 0, 0, 6, 1};
        PermitPark park = new PermitPark();
        park.addThread(6, 9, 5);
        for (int what = 0; what < due.length; what++) {
            Check.due("thread(0, " + what + ")", park.thread(0, what), due[what]);
        }
        Check.due("events", park.count(13), 0);
        Check.due("lock(5, 0)", park.lock(5, 0), -1);
    }

    private static void addedLate() {
        PermitPark park = Parks.of("thread 9: nap 2, run 3;");
        park.run(4);
        Check.due("addThread", park.addThread(9, 2, 5), 1);
        Check.due("never ran", park.thread(1, 11), -1);
        Check.due("one that never ran is ahead", park.next(), 1);
        park.run(1);
        Check.due("deadline", park.thread(1, 7), 9);
    }

    private static void oneInstruction() {
        PermitPark park = new PermitPark();
        park.addThread(1, 0, 1);
        Check.due("instructions", park.thread(0, 18), 1);
        Check.dueThrow("instruction(0, 1, 0)", Edges.INDEX, () -> park.instruction(0, 1, 0));
        Check.due("run(1)", park.run(1), 1);
    }

    // ---- promise 8

    private static void threadRange() {
        Check.due("addInstruction(0, ..)", Edges.rich().addInstruction(0, 1, 0), 4);
        Check.due("addInstruction(2, ..)", Edges.rich().addInstruction(2, 1, 0), 4);
        for (int thread : new int[] {-1, 4, 9, 10, Edges.LEAST, Edges.MOST}) {
            Edges.refused("addInstruction(" + thread + ", 1, 0)", Edges.INDEX, park -> park.addInstruction(thread, 1, 0));
        }
    }

    private static void stepRanges() {
        for (int code = 0; code <= 10; code++) {
            int c = code;
            PermitPark park = new PermitPark();
            park.addThread(1, 1, 0);
            Check.due("addInstruction", park.addInstruction(0, code, LEAST[code]), 2);
            Check.due("addInstruction", park.addInstruction(0, code, MOST[code]), 3);
            Check.due("code", park.instruction(0, 1, 0), code);
            Check.due("number", park.instruction(0, 1, 1), LEAST[code]);
            Check.due("number", park.instruction(0, 2, 1), MOST[code]);
            for (int number : new int[] {LEAST[code] - 1, MOST[code] + 1, Edges.LEAST, Edges.MOST}) {
                refusedArgument("addInstruction(2, " + code + ", " + number + ")",
                    one -> one.addInstruction(2, c, number));
            }
        }
        for (int code : new int[] {-1, 11, Edges.LEAST, Edges.MOST}) {
            refusedArgument("addInstruction(2, " + code + ", 1)", park -> park.addInstruction(2, code, 1));
        }
    }

    /** A thread with so many instructions, and one with 1. */
    private static PermitPark program(int instructions) {
        PermitPark park = new PermitPark();
        park.addThread(5, 0, 1);
        park.addThread(5, 0, 20);
        for (int i = 2; i <= instructions; i++) {
            Check.due("addInstruction", park.addInstruction(0, 0, i), i);
        }
        return park;
    }

    private static void sixteen() {
        Check.due("the 16th", program(15).addInstruction(0, 0, 20), 16);
        Edges.refused("the 17th", Edges.STATE, () -> program(16), park -> park.addInstruction(0, 0, 20));
        PermitPark park = program(16);
        Check.due("number of the last one", park.instruction(0, 15, 1), 16);
        Check.dueThrow("instruction(0, 16, 0)", Edges.INDEX, () -> park.instruction(0, 16, 0));
        Check.due("of the other", park.addInstruction(1, 1, 0), 2);
        PermitPark loaded = Parks.of("thread 1:park" + ",park".repeat(15) + ";");
        Check.dueThrow("the 17th behind a text", Edges.STATE, () -> loaded.addInstruction(0, 1, 0));
        PermitPark all = new PermitPark();
        all.addThread(1, 0, 1);
        for (int i = 1; i < 16; i++) {
            all.addInstruction(0, 0, 1);
        }
        Check.due("all 16 are done", all.run(16), 1);
        Check.due("time in which it ran at last", all.thread(0, 11), 15);
    }

    private static PermitPark done() {
        PermitPark park = Parks.of("thread 1: run 1;");
        park.run(1);
        return park;
    }

    private static void toDone() {
        PermitPark park = Parks.of("thread 1: run 2;");
        park.run(1);
        Check.due("ahead of that", park.addInstruction(0, 1, 0), 2);
        Edges.refused("to a done one", Edges.STATE, EdgeThreadTests::done, one -> one.addInstruction(0, 1, 0));
    }

    private static PermitPark faulty() {
        PermitPark park = Parks.of("thread 1: unlock 0;");
        park.run(1);
        return park;
    }

    private static void toFaulty() {
        Check.due("ahead of that", Parks.of("thread 1: unlock 0;").addInstruction(0, 1, 0), 2);
        Edges.refused("to a faulty one", Edges.STATE, EdgeThreadTests::faulty, one -> one.addInstruction(0, 1, 0));
    }

    private static void toOthers() {
        PermitPark park = Parks.of("thread 9: lock 0, park; thread 8: lock 0; thread 1: run 1;");
        park.run(3);
        Check.dueText("state", Parks.facts(park, 2), "1 2 0");
        for (int thread = 0; thread < 3; thread++) {
            int length = park.thread(thread, 18);
            Check.due("addInstruction", park.addInstruction(thread, 0, 1), length + 1);
        }
        park.wake(0);
        Check.due("run(3)", park.run(3), 2);
        Check.dueText("ticks", Parks.facts(park, 10), "3 2 1");
    }

    private static void toParkedAtItsEnd() {
        PermitPark park = Parks.of("thread 1: nap 1;");
        park.run(1);
        Check.due("place", park.thread(0, 3), 1);
        Check.due("addInstruction", park.addInstruction(0, 0, 2), 2);
        Check.due("run(1)", park.run(1), 0);
        Check.due("run(1)", park.run(1), 1);
        PermitPark without = Parks.of("thread 1: nap 1;");
        without.run(1);
        Check.due("without it the thread is done as it returns", without.run(1), 1);
    }

    private static void stepOrder() {
        for (Edges.Maker maker : new Edges.Maker[] {EdgeThreadTests::done, EdgeThreadTests::faulty, () -> program(16)}) {
            int wrong = maker.make().count(2);
            Edges.refused("the code ahead of the state", Edges.ARGUMENT, maker, park -> park.addInstruction(0, 11, 0));
            Edges.refused("the number ahead of the state", Edges.ARGUMENT, maker, park -> park.addInstruction(0, 1, 1));
            Edges.refused("the thread ahead of all", Edges.INDEX, maker, park -> park.addInstruction(wrong, 11, 0));
            Edges.refused("the thread ahead of all", Edges.INDEX, maker, park -> park.addInstruction(-1, 1, 1));
        }
    }

    // ---- promise 9

    private static void setBaseRange() {
        for (int base = 1; base <= 9; base++) {
            PermitPark park = Edges.rich();
            Check.due("setBase", park.setBase(2, base), 3);
            Check.due("BASE", park.thread(2, 0), base);
        }
        for (int base : new int[] {0, 10, -1, Edges.LEAST, Edges.MOST}) {
            refusedArgument("setBase(2, " + base + ")", park -> park.setBase(2, base));
        }
    }

    private static void setBaseThread() {
        Check.due("setBase(0, 1)", Edges.rich().setBase(0, 1), 5);
        Check.due("setBase(3, 1)", Edges.rich().setBase(3, 1), 9);
        for (int thread : new int[] {-1, 4, 10, Edges.LEAST, Edges.MOST}) {
            Edges.refused("setBase(" + thread + ", 1)", Edges.INDEX, park -> park.setBase(thread, 1));
            Edges.refused("setBase(" + thread + ", 0)", Edges.INDEX, park -> park.setBase(thread, 0));
            Edges.refused("setBase(" + thread + ", 10)", Edges.INDEX, park -> park.setBase(thread, 10));
        }
    }

    private static void previousBase() {
        PermitPark park = Parks.of("thread 3: run 5; thread 7: run 5;");
        Check.due("setBase(0, 3)", park.setBase(0, 3), 3);
        Check.due("setBase(0, 9)", park.setBase(0, 9), 3);
        Check.due("setBase(0, 1)", park.setBase(0, 1), 9);
        Check.due("setBase(0, 1)", park.setBase(0, 1), 1);
        Check.dueText("BASE", Parks.facts(park, 0), "1 7");
    }

    private static void setBaseInAllStates() {
        PermitPark park = Parks.of("thread 9: lock 0, park; thread 8: lock 0; thread 7: unlock 1; thread 6: run 1;"
            + "thread 1: run 9;");
        park.run(5);
        Check.dueText("state", Parks.facts(park, 2), "1 2 4 3 0");
        for (int thread = 0; thread < 5; thread++) {
            park.setBase(thread, thread + 2);
        }
        Check.dueText("BASE", Parks.facts(park, 0), "2 3 4 5 6");
        Check.dueText("priority", Parks.facts(park, 1), "3 3 4 5 6");
        Check.dueText("state", Parks.facts(park, 2), "1 2 4 3 0");
    }

    // ---- promises 10 to 12

    private static void whatRange() {
        Check.due("set(0, 1)", new PermitPark().set(0, 1), 0);
        Check.due("set(1, 1)", new PermitPark().set(1, 1), 1);
        for (int what : new int[] {-1, 2, Edges.LEAST, Edges.MOST}) {
            refusedArgument("set(" + what + ", 0)", park -> park.set(what, 0));
            refusedArgument("set(" + what + ", 1)", park -> park.set(what, 1));
        }
    }

    private static void spuriousRange() {
        for (int value : new int[] {0, 1, 999, 1000}) {
            PermitPark park = Edges.rich();
            Check.due("set(0, " + value + ")", park.set(0, value), 30);
            Check.due("SPURIOUS", park.count(0), value);
        }
        for (int value : new int[] {-1, 1001, Edges.LEAST, Edges.MOST}) {
            refusedArgument("set(0, " + value + ")", park -> park.set(0, value));
        }
    }

    private static void lendingRange() {
        for (int value = 0; value <= 1; value++) {
            PermitPark park = Edges.rich();
            Check.due("set(1, " + value + ")", park.set(1, value), 1);
            Check.due("LENDING", park.count(1), value);
        }
        for (int value : new int[] {-1, 2, 1000, Edges.LEAST, Edges.MOST}) {
            refusedArgument("set(1, " + value + ")", park -> park.set(1, value));
        }
    }

    private static void previousValue() {
        PermitPark park = new PermitPark();
        Check.due("set(0, 1000)", park.set(0, 1000), 0);
        Check.due("set(0, 1000)", park.set(0, 1000), 1000);
        Check.due("set(0, 0)", park.set(0, 0), 1000);
        Check.due("set(1, 0)", park.set(1, 0), 1);
        Check.due("set(1, 0)", park.set(1, 0), 0);
        Check.due("set(1, 1)", park.set(1, 1), 0);
        Check.due("SPURIOUS", park.count(0), 0);
        Check.due("LENDING", park.count(1), 1);
    }

    private static void seedRange() {
        Check.due("x at first", new PermitPark().count(4), 1);
        for (int x : new int[] {0, 1, 1000001, 1000002}) {
            PermitPark park = Edges.rich();
            park.seed(x);
            Check.due("x", park.count(4), x);
        }
        for (int x : new int[] {-1, 1000003, Edges.LEAST, Edges.MOST}) {
            refusedArgument("seed(" + x + ")", park -> { park.seed(x); return 0; });
        }
    }

    private static void flagRange() {
        for (int flag = 0; flag <= 7; flag++) {
            PermitPark park = new PermitPark();
            Check.due("setFlag(" + flag + ", true)", park.setFlag(flag, true), false);
            Check.due("flags", park.count(10), 1 << flag);
        }
        for (int flag : new int[] {-1, 8, 31, 32, 33, Edges.LEAST, Edges.MOST}) {
            Edges.refused("setFlag(" + flag + ", true)", Edges.INDEX, park -> park.setFlag(flag, true) ? 1 : 0);
            Edges.refused("setFlag(" + flag + ", false)", Edges.INDEX, park -> park.setFlag(flag, false) ? 1 : 0);
        }
    }

    private static void wasOn() {
        PermitPark park = new PermitPark();
        for (int flag : new int[] {0, 7}) {
            Check.due("off, off", park.setFlag(flag, false), false);
            Check.due("off, on", park.setFlag(flag, true), false);
            Check.due("on, on", park.setFlag(flag, true), true);
            Check.due("flag", park.flag(flag), true);
            Check.due("on, off", park.setFlag(flag, false), true);
            Check.due("off, off", park.setFlag(flag, false), false);
            Check.due("flag", park.flag(flag), false);
        }
        Check.due("flags", park.count(10), 0);
    }

    private static void noThreadReturns() {
        PermitPark park = Parks.of("thread 1: await 0;");
        park.run(1);
        park.setFlag(0, true);
        Check.due("state", park.thread(0, 2), 1);
        Check.due("run(500)", park.run(500), 0);
        Check.due("state", park.thread(0, 2), 1);
        Check.due("events", park.count(13), 1);
        park.wake(0);
        Check.due("behind a wakeup it looks at the flag again", park.run(1), 1);
    }
}
