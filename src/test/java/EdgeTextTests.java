/** Boundary cases of promises 1 to 6 and of the setup texts, a test for each sentence that names one. */
final class EdgeTextTests {
    private static final int BLANKS = 0x20202020;
    private static final String[] WORDS = {"run", "park", "nap", "await", "set", "clear", "wake", "tell", "steal", "lock",
        "unlock"};
    private static final int[] LEAST = {1, 0, 1, 0, 0, 0, 0, 0, 0, 0, 0};
    private static final int[] MOST = {20, 0, 200, 7, 7, 7, 9, 9, 9, 5, 5};

    private EdgeTextTests() {
    }

    static void run() {
        Check.test("promise 1: without threads", EdgeTextTests::noThreads);
        Check.test("promise 1: at the time 0", EdgeTextTests::timeZero);
        Check.test("promise 1: with an empty text buffer", EdgeTextTests::emptyBuffer);
        Check.test("promise 1: and no saved states", EdgeTextTests::noSavedStates);
        Check.test("promise 1: no events at first", EdgeTextTests::noEvents);
        Check.test("promise 2: the highest byte of the parameter first", EdgeTextTests::highestByteFirst);
        Check.test("promise 2: the length in bytes, from an empty text on", EdgeTextTests::lengths);
        Check.test("promise 2: if the text would be longer than 800 bytes", EdgeTextTests::longerThan800);
        Check.test("promise 2: a refused call changes nothing", EdgeTextTests::refusedAppend);
        Check.test("promise 3: length 0 to the present length", EdgeTextTests::truncateRange);
        Check.test("promise 3: of an empty text", EdgeTextTests::truncateEmpty);
        Check.test("promise 3: of a full text", EdgeTextTests::truncateFull);
        Check.test("promise 3: cuts the text to its first bytes", EdgeTextTests::cutInsideToken);
        Check.test("promise 4: an empty text", EdgeTextTests::emptyText);
        Check.test("promise 4: the number of threads, 0 to 10", EdgeTextTests::threadNumbers);
        Check.test("promise 4: the text buffer is empty afterwards", EdgeTextTests::emptyAfterwards);
        Check.test("promise 4: also if there is an error", EdgeTextTests::emptyAfterError);
        Check.test("promise 4: what it does not tell is as at first", EdgeTextTests::asAtFirst);
        Check.test("promise 4: which replaces everything, of a machine that was full", EdgeTextTests::replacesFullMachine);
        Check.test("promise 4: except saved states", EdgeTextTests::savedStatesStay);
        Check.test("promise 4: with an error everything else stays", EdgeTextTests::everythingStays);
        Check.test("promises 5, 6: if there was no such call", EdgeTextTests::noLoadYet);
        Check.test("promises 5, 6: of the latest load(), wrong ahead of right", EdgeTextTests::wrongThenRight);
        Check.test("promises 5, 6: of the latest load(), right ahead of wrong", EdgeTextTests::rightThenWrong);
        Check.test("promises 5, 6: of the latest load(), wrong ahead of wrong", EdgeTextTests::wrongThenWrong);
        Check.test("promises 5, 6: only load() changes them", EdgeTextTests::onlyLoad);
        grammar();
    }

    private static void grammar() {
        Check.test("setup texts: numbers may have any number of digits", EdgeTextTests::manyDigits);
        Check.test("setup texts: numbers far out of range", EdgeTextTests::farNumbers);
        Check.test("setup texts: each byte by itself", EdgeTextTests::eachByteAlone);
        Check.test("setup texts: each byte between a word and a number", EdgeTextTests::eachByteBehindWord);
        Check.test("setup texts: each byte behind a number", EdgeTextTests::eachByteBehindNumber);
        Check.test("setup texts: spaces and line feeds ahead of, between and behind tokens", EdgeTextTests::blanks);
        Check.test("setup texts: no blank between tokens", EdgeTextTests::noBlanks);
        Check.test("setup texts: tokens are maximal runs", EdgeTextTests::maximalRuns);
        Check.test("setup texts: words with one letter changed, less or more", EdgeTextTests::wordsByOneLetter);
        Check.test("setup texts: BASE 1 to 9", EdgeTextTests::baseRange);
        Check.test("setup texts: at least 1 instruction", EdgeTextTests::noInstruction);
        Check.test("setup texts: the numbers of the instructions", EdgeTextTests::instructionRanges);
        Check.test("setup texts: park has no number, all others have one", EdgeTextTests::parkWithoutNumber);
        Check.test("setup texts: wake, tell and steal of a thread that is not there", EdgeTextTests::threadNotThere);
        Check.test("setup texts: flag F, 0 to 7", EdgeTextTests::flagRange);
        Check.test("setup texts: set WHAT VALUE", EdgeTextTests::setRange);
        Check.test("setup texts: X is 0 to 1000002", EdgeTextTests::seedRange);
        Check.test("setup texts: set and seed again", EdgeTextTests::setAgain);
        Check.test("setup texts: code 1 if the text ends too early", EdgeTextTests::endsTooEarly);
        Check.test("setup texts: the error position at the end of a text of 800 bytes", EdgeTextTests::endAt800);
        Check.test("setup texts: code 3 for the word thread of an 11th thread", EdgeTextTests::eleventhThread);
        Check.test("setup texts: code 3 for the first word of a 17th instruction", EdgeTextTests::seventeenth);
        Check.test("setup texts: code 4 for a flag that is on already, at its number", EdgeTextTests::flagOnAlready);
        Check.test("setup texts: of several errors at one token the least code", EdgeTextTests::leastCode);
        Check.test("setup texts: the parser stops at the first wrong token", EdgeTextTests::firstWrongToken);
    }

    private static PermitPark right(String setup) {
        PermitPark park = Parks.of(setup);
        Check.due("errorCode() of " + setup, park.errorCode(), 0);
        Check.due("errorPosition() of " + setup, park.errorPosition(), -1);
        return park;
    }

    private static void wrong(String setup, int code, int position) {
        PermitPark park = new PermitPark();
        Check.due("load() of " + setup, Parks.load(park, setup), -1);
        Check.due("errorCode() of " + setup, park.errorCode(), code);
        Check.due("errorPosition() of " + setup, park.errorPosition(), position);
        Check.due("threads behind " + setup, park.count(2), 0);
        Check.due("flags behind " + setup, park.count(10), 0);
    }

    // ---- promise 1

    private static void noThreads() {
        PermitPark park = new PermitPark();
        Check.due("threads", park.count(2), 0);
        for (int what = 5; what <= 9; what++) {
            Check.due("threads in a state", park.count(what), 0);
        }
        Check.dueThrow("thread(0, 0)", Edges.INDEX, () -> park.thread(0, 0));
        Check.dueThrow("instruction(0, 0, 0)", Edges.INDEX, () -> park.instruction(0, 0, 0));
        Check.dueThrow("addInstruction(0, 0, 1)", Edges.INDEX, () -> park.addInstruction(0, 0, 1));
        Check.dueThrow("setBase(0, 1)", Edges.INDEX, () -> park.setBase(0, 1));
        Check.dueThrow("events(0, 0)", Edges.INDEX, () -> park.events(0, 0));
        Check.dueThrow("wake(0)", Edges.INDEX, () -> park.wake(0));
        Check.dueThrow("interrupt(0)", Edges.INDEX, () -> park.interrupt(0));
        Check.dueThrow("rouse(0)", Edges.INDEX, () -> park.rouse(0) ? 1 : 0);
        Check.dueThrow("chain(0, 0)", Edges.INDEX, () -> park.chain(0, 0));
        Check.dueThrow("lent(0)", Edges.INDEX, () -> (long) park.lent(0));
        Check.dueThrow("doneIn(0, 1)", Edges.INDEX, () -> park.doneIn(0, 1));
        Check.dueThrow("returnsIn(0, 1)", Edges.INDEX, () -> park.returnsIn(0, 1));
        Check.dueThrow("bestBase(0, 1)", Edges.INDEX, () -> park.bestBase(0, 1));
        Check.due("next()", park.next(), PermitPark.NONE);
        Check.due("stuck()", park.stuck(), 0);
        Check.due("ahead(500, 1)", park.ahead(500, 1), 500);
        Check.due("run(500)", park.run(500), 0);
        Check.due("idle ticks", park.count(12), 500);
    }

    private static void timeZero() {
        PermitPark park = new PermitPark();
        Check.due("time", park.count(3), 0);
        Check.dueReal("busy() at the time 0", park.busy(), 0.0);
        park.run(1);
        Check.due("time", park.count(3), 1);
        Check.due("time of another new one", new PermitPark().count(3), 0);
    }

    private static void emptyBuffer() {
        PermitPark park = new PermitPark();
        Check.dueThrow("truncateText(1)", Edges.ARGUMENT, () -> park.truncateText(1));
        Check.due("truncateText(0)", park.truncateText(0), 0);
        Check.due("appendText", park.appendText(BLANKS), 4);
        Check.due("load() of another new one", new PermitPark().load(), 0);
    }

    private static void noSavedStates() {
        for (int slot = 0; slot < 2; slot++) {
            int s = slot;
            Edges.refused("restore(" + slot + ") of a new object", Edges.STATE, PermitPark::new,
                park -> { park.restore(s); return 0; });
        }
    }

    private static void noEvents() {
        PermitPark park = new PermitPark();
        Check.due("events", park.count(13), 0);
        Check.dueThrow("event(0, 0)", Edges.INDEX, () -> park.event(0, 0));
        for (int kind = 0; kind <= 9; kind++) {
            Check.due("events(" + kind + ", NONE)", park.events(kind, PermitPark.NONE), 0);
        }
    }

    // ---- promises 2 and 3

    private static void highestByteFirst() {
        PermitPark park = new PermitPark();
        park.appendText(0x666c6167);
        park.appendText(0x20353b0a);
        Check.due("load()", park.load(), 0);
        Check.due("flags", park.count(10), 32);
        // A number below 0 is a byte above 127 ahead of three others, each where it belongs.
        int[] wrongs = {0xff202020, 0x20ff2020, 0x2020ff20, 0x202020ff, 0x80808080};
        int[] positions = {0, 1, 2, 3, 0};
        for (int i = 0; i < wrongs.length; i++) {
            park.appendText(wrongs[i]);
            Check.due("load()", park.load(), -1);
            Check.due("errorCode()", park.errorCode(), 1);
            Check.due("errorPosition()", park.errorPosition(), positions[i]);
        }
        Check.due("appendText(least)", park.appendText(Edges.LEAST), 4);
        Check.due("appendText(most)", park.appendText(Edges.MOST), 8);
        Check.due("appendText(0)", park.appendText(0), 12);
    }

    private static void lengths() {
        PermitPark park = new PermitPark();
        for (int i = 1; i <= 200; i++) {
            Check.due("appendText", park.appendText(BLANKS), 4 * i);
        }
        Check.due("load()", park.load(), 0);
        Check.due("behind load()", park.appendText(BLANKS), 4);
        park.truncateText(1);
        Check.due("behind truncateText(1)", park.appendText(BLANKS), 5);
    }

    /** An object with so many bytes of text. */
    private static PermitPark written(int length) {
        PermitPark park = new PermitPark();
        for (int i = 0; i < length; i += 4) {
            park.appendText(i == 0 ? 0x666c6167 : i == 4 ? 0x20333b20 : BLANKS);
        }
        park.truncateText(length);
        return park;
    }

    private static void longerThan800() {
        for (int length = 793; length <= 796; length++) {
            Check.due("appendText at " + length, written(length).appendText(BLANKS), length + 4);
        }
        for (int length = 797; length <= 800; length++) {
            PermitPark park = written(length);
            Check.dueThrow("appendText at " + length, Edges.STATE, () -> park.appendText(BLANKS));
            park.truncateText(796);
            Check.due("appendText at 796", park.appendText(BLANKS), 800);
        }
    }

    private static void refusedAppend() {
        for (int length = 797; length <= 800; length++) {
            int l = length;
            Edges.refused("appendText at " + length, Edges.STATE, () -> written(l), park -> park.appendText(0x3b3b3b3b));
            PermitPark park = written(length);
            Check.dueThrow("appendText", Edges.STATE, () -> park.appendText(0x3b3b3b3b));
            Check.due("truncateText(" + length + ")", park.truncateText(length), length);
            Check.due("load()", park.load(), 0);
            Check.due("flags", park.count(10), 8);
        }
    }

    private static void truncateRange() {
        for (int length : new int[] {0, 1, 28, 29}) {
            Check.due("truncateText(" + length + ")", Edges.rich().truncateText(length), length);
        }
        PermitPark park = Edges.rich();
        park.truncateText(28);
        Check.dueThrow("truncateText(29) behind truncateText(28)", Edges.ARGUMENT, () -> park.truncateText(29));
        for (int length : new int[] {-1, 30, 800, 801, Edges.LEAST, Edges.MOST}) {
            Edges.refused("truncateText(" + length + ")", Edges.ARGUMENT, one -> one.truncateText(length));
        }
    }

    private static void truncateEmpty() {
        Check.due("truncateText(0)", new PermitPark().truncateText(0), 0);
        for (int length : new int[] {-1, 1, 4, 800}) {
            Edges.refused("truncateText(" + length + ")", Edges.ARGUMENT, PermitPark::new,
                park -> park.truncateText(length));
        }
    }

    private static void truncateFull() {
        PermitPark park = written(800);
        Check.dueThrow("truncateText(801)", Edges.ARGUMENT, () -> park.truncateText(801));
        Check.due("truncateText(800)", park.truncateText(800), 800);
        Check.due("truncateText(799)", park.truncateText(799), 799);
        Check.dueThrow("truncateText(800)", Edges.ARGUMENT, () -> park.truncateText(800));
        Check.due("truncateText(0)", park.truncateText(0), 0);
        Check.due("load()", park.load(), 0);
        Check.due("flags", park.count(10), 0);
    }

    private static void cutInsideToken() {
        PermitPark park = new PermitPark();
        Parks.write(park, "seed 123456;");
        park.truncateText(8);
        Check.due("appendText behind the cut", park.appendText(0x3b202020), 12);
        Check.due("load()", park.load(), 0);
        Check.due("x", park.count(4), 123);
        Parks.write(park, "flag 1;flag 2;");
        park.truncateText(13);
        Check.due("load()", park.load(), -1);
        Check.due("errorPosition()", park.errorPosition(), 13);
    }

    // ---- promises 4 to 6

    private static void emptyText() {
        PermitPark park = Edges.rich();
        park.truncateText(0);
        Check.due("load()", park.load(), 0);
        Check.dueText("all", Parks.all(park), Parks.all(new PermitPark()));
        for (String blank : new String[] {" ", "\n", " \n \n", " ".repeat(800), "\n".repeat(799)}) {
            Check.dueText("all behind blanks", Parks.all(right(blank)), Parks.all(new PermitPark()));
        }
    }

    private static void threadNumbers() {
        StringBuilder setup = new StringBuilder();
        for (int threads = 0; threads <= 10; threads++) {
            PermitPark park = new PermitPark();
            Check.due("load()", Parks.load(park, setup.toString()), threads);
            Check.due("threads", park.count(2), threads);
            setup.append("thread 1:park;");
        }
        PermitPark park = new PermitPark();
        Check.due("load() of 11", Parks.load(park, setup.toString()), PermitPark.NONE);
        Check.due("threads", park.count(2), 0);
    }

    private static void emptyAfterwards() {
        PermitPark park = new PermitPark();
        Check.due("load()", Parks.load(park, "thread 1: park; flag 1;"), 1);
        Check.dueThrow("truncateText(1)", Edges.ARGUMENT, () -> park.truncateText(1));
        Check.due("load() again, of an empty text", park.load(), 0);
        Check.dueText("all", Parks.all(park), Parks.all(new PermitPark()));
    }

    private static void emptyAfterError() {
        PermitPark park = new PermitPark();
        Check.due("load()", Parks.load(park, "thread 1: park; flag 8;"), -1);
        Check.dueThrow("truncateText(1)", Edges.ARGUMENT, () -> park.truncateText(1));
        Check.due("load() again, of an empty text", park.load(), 0);
        Check.due("errorCode()", park.errorCode(), 0);
        Check.due("errorPosition()", park.errorPosition(), -1);
    }

    private static void asAtFirst() {
        PermitPark park = Edges.rich();
        park.truncateText(0);
        Check.due("load()", Parks.load(park, "thread 2: run 1;"), 1);
        PermitPark first = new PermitPark();
        first.addThread(2, 0, 1);
        Check.dueText("all", Parks.all(park), Parks.all(first));
        park.run(1);
        first.run(1);
        Check.dueText("all behind a tick", Parks.all(park), Parks.all(first));
    }

    /** Ten threads that come to all states, are waited for at all locks, and are predicted ahead of load(). */
    private static PermitPark full() {
        PermitPark park = Parks.of("thread 9:lock 0,lock 1,lock 2,lock 3,lock 4,lock 5,park,tell 9,steal 9,await 0;"
            + "thread 8:lock 0;thread 7:lock 1;thread 6:lock 2;thread 5:lock 3;thread 4:lock 4;thread 3:lock 5;"
            + "thread 2:unlock 0;thread 1:nap 200;thread 1:wake 7,wake 9,wake 9,wake 9,await 1;flag 6;seed 9;");
        park.run(18);
        park.wake(8);
        park.run(2);
        park.wake(0);
        park.interrupt(9);
        park.interrupt(8);
        park.run(4);
        for (int i = 0; i < 10; i++) {
            park.wake(i);
            park.wake(i);
            park.interrupt(i);
        }
        park.set(0, 20);
        park.set(1, 0);
        park.ahead(500, 0);
        return park;
    }

    private static void replacesFullMachine() {
        PermitPark counted = full();
        for (int what = 6; what <= 17; what++) {
            Check.due("count(" + what + ") is above 0", counted.count(what) > 0 || what == 6 || what == 12, true);
        }
        String[] setups = {"", "thread 3:run 2;", "thread 3:run 9;thread 2:lock 0,park;thread 1:steal 2,wake 3,tell 4;"};
        for (String setup : setups) {
            PermitPark park = full();
            Parks.load(park, setup);
            PermitPark fresh = Parks.of(setup);
            Check.dueText("all behind load() of " + setup, Parks.all(park), Parks.all(fresh));
            PermitPark later = full();
            Parks.load(later, setup);
            later.set(0, 1000);
            PermitPark freshLater = Parks.of(setup);
            freshLater.set(0, 1000);
            while (later.count(2) < 10) {
                Check.due("addThread", later.addThread(4, 0, 3), freshLater.addThread(4, 0, 3));
            }
            Check.due("run(30)", later.run(30), freshLater.run(30));
            Check.dueText("all, later", Parks.all(later), Parks.all(freshLater));
        }
        PermitPark added = full();
        added.load();
        PermitPark fresh = new PermitPark();
        for (int i = 0; i < 10; i++) {
            Check.due("addThread", added.addThread(4, 9, 0), fresh.addThread(4, 9, 0));
        }
        Check.dueText("all with new threads", Parks.all(added), Parks.all(fresh));
        for (int lock = 0; lock < 6; lock++) {
            for (int index = 0; index < 10; index++) {
                Check.due("lock(" + lock + ", " + index + ")", added.lock(lock, index), -1);
            }
        }
    }

    private static void savedStatesStay() {
        PermitPark park = Edges.rich();
        park.load();
        park.truncateText(0);
        park.load();
        park.restore(0);
        Check.due("time", park.count(3), 2);
        Check.due("threads", park.count(2), 4);
        Check.dueThrow("restore(1)", Edges.STATE, () -> { park.restore(1); return 0; });
    }

    /** All is as it was but the text and the error, though most of the text was right. */
    private static void everythingStays() {
        String[] texts = {"flag 1", "flag 1;flag 1;", "set 0 7;set 1 0;seed 5;thread 1:park;x",
            "thread 1:run 1,run 21;", "thread 9:park,;", "flag 0;flag 1;flag 3;flag 8;",
            "thread 1:park;".repeat(11), "flag 0; thread 1: run 1; set 0 1000; seed 2;!"};
        for (String text : texts) {
            Check.due("errorCode() of " + text, loadedWrong(text).errorCode() > 0, true);
            // Another wrong load() behind it, so that the error is the same with and without it.
            Edges.unchanged("load() of " + text, () -> loadedWrong("!"), park -> {
                Parks.load(park, text);
                return Parks.load(park, "!");
            });
        }
        PermitPark park = loadedWrong(texts[7]);
        Check.due("errorPosition()", park.errorPosition(), 44);
        Check.due("threads", park.count(2), 4);
        Check.due("flags", park.count(10), 68);
    }

    private static PermitPark loadedWrong(String text) {
        PermitPark park = Edges.rich();
        park.truncateText(0);
        Check.due("load() of " + text, Parks.load(park, text), -1);
        return park;
    }

    private static void noLoadYet() {
        PermitPark park = new PermitPark();
        Check.due("errorCode()", park.errorCode(), 0);
        Check.due("errorPosition()", park.errorPosition(), PermitPark.NONE);
        Parks.write(park, "wrong;");
        Check.due("errorCode() ahead of load()", park.errorCode(), 0);
        Check.due("errorPosition() ahead of load()", park.errorPosition(), PermitPark.NONE);
    }

    private static void wrongThenRight() {
        PermitPark park = new PermitPark();
        Parks.load(park, "flag 8;");
        Check.due("errorCode()", park.errorCode(), 2);
        Check.due("errorPosition()", park.errorPosition(), 5);
        Parks.load(park, "flag 7;");
        Check.due("errorCode()", park.errorCode(), 0);
        Check.due("errorPosition()", park.errorPosition(), -1);
    }

    private static void rightThenWrong() {
        PermitPark park = right("flag 7;");
        Parks.load(park, ";");
        Check.due("errorCode()", park.errorCode(), 1);
        Check.due("errorPosition()", park.errorPosition(), 0);
        Check.due("flags of the right one", park.count(10), 128);
    }

    private static void wrongThenWrong() {
        PermitPark park = new PermitPark();
        Parks.load(park, "flag 7;flag 7;");
        Check.due("errorCode()", park.errorCode(), 4);
        Check.due("errorPosition()", park.errorPosition(), 12);
        Parks.load(park, "seed 1000003;");
        Check.due("errorCode()", park.errorCode(), 2);
        Check.due("errorPosition()", park.errorPosition(), 5);
    }

    private static void onlyLoad() {
        PermitPark park = new PermitPark();
        park.save(1);
        Parks.load(park, "thread 1: park; flag");
        Check.due("errorPosition()", park.errorPosition(), 20);
        park.restore(1);
        park.addThread(1, 0, 5);
        park.run(3);
        park.appendText(BLANKS);
        park.truncateText(0);
        park.save(0);
        Check.dueThrow("flag(8)", Edges.INDEX, () -> park.flag(8) ? 1 : 0);
        Check.due("errorCode()", park.errorCode(), 1);
        Check.due("errorPosition()", park.errorPosition(), 20);
    }

    // ---- setup texts: tokens

    private static void manyDigits() {
        String zeros = "0".repeat(700);
        Check.due("x", right("seed " + zeros + ";").count(4), 0);
        Check.due("x", right("seed " + zeros + "1000002;").count(4), 1000002);
        Check.due("BASE", right("thread " + zeros + "9:park;").thread(0, 0), 9);
        Check.due("number", right("thread 1:nap " + zeros + "200;").instruction(0, 0, 1), 200);
        Check.due("flags", right("flag " + zeros + "7;").count(10), 128);
        Check.due("SPURIOUS", right("set " + zeros + " 00001000;").count(0), 1000);
        Check.due("SPURIOUS", right("set 00000 " + zeros + "1000;").count(0), 1000);
        wrong("seed " + zeros + "1000003;", 2, 5);
        wrong("thread " + zeros + ":park;", 2, 7);
        wrong("flag " + "9".repeat(794) + ";", 2, 5);
        wrong("flag " + "9".repeat(795), 2, 5);
        wrong("seed " + "0".repeat(794) + "1", 1, 800);
    }

    /** Numbers that would be small ones with a wrap-around, or at the bounds of Java's numbers. */
    private static void farNumbers() {
        String[] numbers = {"2147483647", "2147483648", "4294967295", "4294967296", "4294967297", "4294967298",
            "9223372036854775807", "9223372036854775808", "18446744073709551616", "18446744073709551617",
            "36893488147419103233", "1" + "0".repeat(32), "1" + "0".repeat(64), "1" + "0".repeat(600) + "1"};
        for (String number : numbers) {
            wrong("flag " + number + ";", 2, 5);
            wrong("seed " + number + ";", 2, 5);
            wrong("set " + number + " 1;", 2, 4);
            wrong("set 1 " + number + ";", 2, 6);
            wrong("thread " + number + ":park;", 2, 7);
            wrong("thread 1:run " + number + ";", 2, 13);
            wrong("thread 1:wake " + number + ";", 2, 14);
        }
    }

    private static PermitPark loadBytes(int... values) {
        byte[] bytes = new byte[values.length];
        for (int i = 0; i < values.length; i++) {
            bytes[i] = (byte) values[i];
        }
        PermitPark park = new PermitPark();
        Parks.write(park, bytes);
        Check.due("load()", park.load() == (park.errorCode() == 0 ? 0 : -1), true);
        return park;
    }

    private static void dueError(int value, PermitPark park, int code, int position) {
        Check.due("errorCode() with the byte " + value, park.errorCode(), code);
        Check.due("errorPosition() with the byte " + value, park.errorPosition(), position);
    }

    private static void eachByteAlone() {
        for (int value = 0; value < 256; value++) {
            boolean isBlank = value == 32 || value == 10;
            dueError(value, loadBytes(value), isBlank ? 0 : 1, isBlank ? -1 : 0);
        }
    }

    private static void eachByteBehindWord() {
        for (int value = 0; value < 256; value++) {
            PermitPark park = loadBytes('f', 'l', 'a', 'g', value, '1', ';');
            if (value == 32 || value == 10 || value == '0') {
                dueError(value, park, 0, -1);
                Check.due("flags", park.count(10), 2);
            } else if (value >= '1' && value <= '9') {
                dueError(value, park, 2, 4);
            } else if (value >= 'a' && value <= 'z') {
                dueError(value, park, 1, 0);
            } else {
                dueError(value, park, 1, 4);
            }
        }
    }

    private static void eachByteBehindNumber() {
        for (int value = 0; value < 256; value++) {
            PermitPark park = loadBytes('f', 'l', 'a', 'g', ' ', '1', value, ';');
            if (value == 32 || value == 10) {
                dueError(value, park, 0, -1);
                Check.due("flags", park.count(10), 2);
            } else if (value >= '0' && value <= '9') {
                dueError(value, park, 2, 5);
            } else {
                dueError(value, park, 1, value == ';' ? 7 : 6);
            }
        }
    }

    private static void blanks() {
        PermitPark park = right("\n\n  thread\n 4 \n:\n\n nap \n 7  ,\npark , run\n1 \n; flag  \n3\n;\n \n");
        Check.due("instructions", park.thread(0, 18), 3);
        Check.due("flags", park.count(10), 8);
        wrong(" \n flag \n 9 \n", 2, 10);
        wrong(" \n flag \n 3 \n", 1, 13);
        wrong("\tflag 1;", 1, 0);
        wrong("flag 1;\r\n", 1, 7);
        wrong("flag 1;\u000b", 1, 7);
        wrong("flag\u00a01;", 1, 4);
    }

    private static void noBlanks() {
        PermitPark park = right("thread4:nap7,park,run1;flag3;set0 5;set1 0;seed9;");
        Check.due("instructions", park.thread(0, 18), 3);
        Check.due("flags", park.count(10), 8);
        Check.due("SPURIOUS", park.count(0), 5);
        Check.due("x", park.count(4), 9);
    }

    private static void maximalRuns() {
        wrong("set05;", 2, 3);
        wrong("set00;", 1, 5);
        wrong("threads 1:park;", 1, 0);
        wrong("threa d 1:park;", 1, 0);
        wrong("thread 1:parkpark;", 1, 9);
        wrong("thread 1:run 1park;", 1, 14);
        wrong("thread 1:run 1 2;", 1, 15);
        wrong("thread 1:run 2 0;", 1, 15);
        wrong("thread 1:ru n 2;", 1, 9);
        wrong("flagflag 1;", 1, 0);
        Check.due("BASE", right("thread 07:park;").thread(0, 0), 7);
    }

    private static void wordsByOneLetter() {
        String[] words = {"thread", "flag", "set", "seed"};
        String[] behind = {" 1:park;", " 1;", " 1 1;", " 1;"};
        for (int i = 0; i < words.length; i++) {
            right(words[i] + behind[i]);
            for (String other : near(words[i])) {
                wrong(other + behind[i], 1, 0);
            }
        }
        for (int code = 0; code < WORDS.length; code++) {
            String number = code == 1 ? ";" : " 1;";
            right("thread 1:" + WORDS[code] + number);
            for (String other : near(WORDS[code])) {
                wrong("thread 1:" + other + number, 1, 9);
            }
        }
    }

    private static String[] near(String word) {
        String[] near = new String[3 * word.length() + 1];
        for (int i = 0; i < word.length(); i++) {
            String changed = word.charAt(i) == 'z' ? "y" : "z";
            near[3 * i] = word.substring(0, i) + changed + word.substring(i + 1);
            near[3 * i + 1] = word.substring(0, i) + word.substring(i + 1);
            near[3 * i + 2] = word.substring(0, i) + changed + word.substring(i);
        }
        near[3 * word.length()] = word + "z";
        return near;
    }

    // ---- setup texts: statements

    private static void baseRange() {
        for (int base = 1; base <= 9; base++) {
            Check.due("BASE", right("thread " + base + ": park;").thread(0, 0), base);
        }
        for (int base : new int[] {0, 10, 11, 19, 90, 100}) {
            wrong("thread " + base + ": park;", 2, 7);
        }
        wrong("thread : park;", 1, 7);
        wrong("thread -1: park;", 1, 7);
    }

    private static void noInstruction() {
        Check.due("instructions", right("thread 1: park;").thread(0, 18), 1);
        wrong("thread 1:;", 1, 9);
        wrong("thread 1;", 1, 8);
        wrong("thread 1:,park;", 1, 9);
        wrong("thread 1:park,;", 1, 14);
        wrong("thread 1:park,,park;", 1, 14);
    }

    private static void instructionRanges() {
        for (int code = 0; code < WORDS.length; code++) {
            if (MOST[code] == 0) {
                continue;
            }
            for (int number = LEAST[code]; number <= MOST[code]; number++) {
                PermitPark park = right("thread 1:" + WORDS[code] + " " + number + ";");
                Check.due("code", park.instruction(0, 0, 0), code);
                Check.due("number", park.instruction(0, 0, 1), number);
            }
            int position = 10 + WORDS[code].length();
            wrong("thread 1:" + WORDS[code] + " " + (MOST[code] + 1) + ";", 2, position);
            wrong("thread 1:park," + WORDS[code] + " " + (MOST[code] + 1) + ";", 2, position + 5);
            if (LEAST[code] > 0) {
                wrong("thread 1:" + WORDS[code] + " " + (LEAST[code] - 1) + ";", 2, position);
            }
        }
    }

    private static void parkWithoutNumber() {
        PermitPark park = right("thread 1:park,park;");
        Check.due("code", park.instruction(0, 1, 0), 1);
        Check.due("number", park.instruction(0, 1, 1), 0);
        wrong("thread 1:park 0;", 1, 14);
        wrong("thread 1:park 1,park;", 1, 14);
        for (int code = 0; code < WORDS.length; code++) {
            if (code != 1) {
                int position = 9 + WORDS[code].length();
                wrong("thread 1:" + WORDS[code] + ";", 1, position);
                wrong("thread 1:" + WORDS[code] + ",park;", 1, position);
                wrong("thread 1:" + WORDS[code] + " park;", 1, position + 1);
            }
        }
    }

    private static void threadNotThere() {
        PermitPark park = right("thread 1:wake 9,tell 1,steal 9,run 1;");
        Check.due("run(4)", park.run(4), 1);
        Check.due("events", park.count(13), 1);
        wrong("thread 1:wake 10;", 2, 14);
    }

    private static void flagRange() {
        Check.due("flags", right("flag 0;flag 1;flag 2;flag 3;flag 4;flag 5;flag 6;flag 7;").count(10), 255);
        Check.due("flags", right("flag 0;").count(10), 1);
        Check.due("flags", right("flag 7;").count(10), 128);
        wrong("flag 8;", 2, 5);
        wrong("flag -1;", 1, 5);
    }

    private static void setRange() {
        int[][] rights = {{0, 0}, {0, 1}, {0, 999}, {0, 1000}, {1, 0}, {1, 1}};
        for (int[] it : rights) {
            Check.due("setting", right("set " + it[0] + " " + it[1] + ";").count(it[0]), it[1]);
        }
        wrong("set 0 1001;", 2, 6);
        wrong("set 1 2;", 2, 6);
        wrong("set 1 1000;", 2, 6);
        wrong("set 2 0;", 2, 4);
        wrong("set 0 -1;", 1, 6);
        wrong("set 0;", 1, 5);
        wrong("set;", 1, 3);
    }

    private static void seedRange() {
        for (int x : new int[] {0, 1, 1000001, 1000002}) {
            Check.due("x", right("seed " + x + ";").count(4), x);
        }
        wrong("seed 1000003;", 2, 5);
        wrong("seed 10000020;", 2, 5);
        wrong("seed -1;", 1, 5);
    }

    private static void setAgain() {
        PermitPark park = right("set 0 5;set 0 5;set 0 6;set 1 0;set 1 1;seed 4;seed 3;");
        Check.due("SPURIOUS", park.count(0), 6);
        Check.due("LENDING", park.count(1), 1);
        Check.due("x", park.count(4), 3);
    }

    // ---- setup texts: errors

    /** Each beginning of a right text: right behind a ';', too early behind another token, wrong inside a word. */
    private static void endsTooEarly() {
        String[] tokens = {"thread", "1", ":", "park", ",", "nap", "2", ";", "flag", "3", ";", "set", "0", "4", ";",
            "seed", "5", ";"};
        for (String gap : new String[] {" ", "\n ", "  \n"}) {
            int[] starts = new int[tokens.length];
            StringBuilder text = new StringBuilder();
            for (int i = 0; i < tokens.length; i++) {
                starts[i] = text.length();
                text.append(tokens[i]).append(gap);
            }
            for (int length = 0; length <= text.length(); length++) {
                int last = -1;
                for (int i = 0; i < tokens.length; i++) {
                    last = starts[i] < length ? i : last;
                }
                String setup = text.substring(0, length);
                if (last >= 0 && starts[last] + tokens[last].length() > length) {
                    wrong(setup, 1, starts[last]);
                } else if (last < 0 || tokens[last].equals(";")) {
                    right(setup);
                } else {
                    wrong(setup, 1, length);
                }
            }
        }
    }

    private static void endAt800() {
        wrong("flag 1" + " ".repeat(794), 1, 800);
        wrong("flag 1" + " ".repeat(793) + ",", 1, 799);
        wrong(" ".repeat(796) + "flag", 1, 800);
        wrong(" ".repeat(799) + "f", 1, 799);
        wrong(" ".repeat(799) + "1", 1, 799);
        wrong(" ".repeat(794) + "flag 8", 2, 799);
        right(" ".repeat(793) + "flag 1;");
        right("flag 1;" + " ".repeat(793));
    }

    private static String threads(int number) {
        return "thread 1:park;".repeat(number);
    }

    private static void eleventhThread() {
        Check.due("threads", right(threads(10)).count(2), 10);
        Check.due("flags", right(threads(10) + "flag 0;").count(10), 1);
        wrong(threads(11), 3, 140);
        wrong(threads(10) + "\n thread", 3, 142);
        wrong(threads(10) + "thread thread", 3, 140);
        wrong(threads(10) + "flag 0;thread 0:", 3, 147);
        wrong(threads(10) + "flag 8;thread 1:park;", 2, 145);
    }

    private static String program(int instructions) {
        return "thread 1:park" + ",park".repeat(instructions - 1);
    }

    private static void seventeenth() {
        Check.due("instructions", right(program(16) + ";").thread(0, 18), 16);
        Check.dueText("instructions", Parks.facts(right(program(16) + ";" + program(16) + ";"), 18), "16 16");
        wrong(program(17) + ";", 3, 89);
        for (String word : WORDS) {
            wrong(program(16) + ", " + word, 3, 90);
        }
        wrong(program(16) + ",run 0;", 3, 89);
        wrong("thread 1:park;" + program(16) + ",run;", 3, 103);
        wrong(program(16) + ",run 0" + ",park;".repeat(2), 3, 89);
    }

    private static void flagOnAlready() {
        right("flag 3;flag 4;");
        wrong("flag 3;flag 3;", 4, 12);
        wrong("flag 3;flag  003", 4, 13);
        wrong("flag 0;flag 0;", 4, 12);
        wrong("flag 7;flag 1;flag 7;", 4, 19);
        PermitPark park = right("flag 3;");
        Check.due("load() of a flag that is on in the machine", Parks.load(park, "flag 3;"), 0);
        Check.due("flags", park.count(10), 8);
    }

    private static void leastCode() {
        wrong(threads(9) + "thread 1:park thread 1:park;", 1, 140);
        wrong(threads(10) + "threads 1:park;", 1, 140);
        wrong(program(16) + ",thread 1:park;", 1, 89);
        wrong(program(16) + ",;", 1, 89);
        wrong(program(16) + ",7;", 1, 89);
        wrong(program(16) + ",", 1, 89);
        wrong(program(16) + " park;", 1, 89);
        wrong("flag 7;flag 8;", 2, 12);
        wrong("flag 7;flag;", 1, 11);
    }

    private static void firstWrongToken() {
        wrong("flag 9; set 5 5; park", 2, 5);
        wrong("flag 1 flag 1;", 1, 7);
        wrong("flag 1; flag 1; flag 9;", 4, 13);
        wrong("thread 0: lock 9;", 2, 7);
        wrong("thread 1: lock 9, unlock 9;", 2, 15);
        wrong("set 0 2000, set;", 2, 6);
    }
}
