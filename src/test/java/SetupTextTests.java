/** Promises 1 to 6: a new object, the text buffer, setup texts. */
final class SetupTextTests {
    private static final int BLANKS = 0x20202020;

    private SetupTextTests() {
    }

    static void run() {
        Check.test("promise 1: a new object", SetupTextTests::newObject);
        Check.test("promise 2: appendText", SetupTextTests::append);
        Check.test("promise 2: the highest byte comes first", SetupTextTests::byteOrder);
        Check.test("promise 3: truncateText", SetupTextTests::truncate);
        Check.test("promise 4: load", SetupTextTests::load);
        Check.test("promise 4: load replaces everything but saved states", SetupTextTests::loadReplaces);
        Check.test("promise 4: nothing of earlier threads is left", SetupTextTests::nothingIsLeft);
        Check.test("promise 4: a wrong text changes nothing but the buffer", SetupTextTests::wrongTextChangesNothing);
        Check.test("promise 4: every instruction and range", SetupTextTests::ranges);
        Check.test("promises 5, 6: no error", SetupTextTests::noError);
        Check.test("promises 5, 6: code 1", SetupTextTests::notAllowed);
        Check.test("promises 5, 6: a byte that belongs to no token", SetupTextTests::strangeBytes);
        Check.test("promises 5, 6: code 2", SetupTextTests::outOfRange);
        Check.test("promises 5, 6: code 3", SetupTextTests::tooMany);
        Check.test("promises 5, 6: code 4", SetupTextTests::flagTwice);
        Check.test("promises 5, 6: the latest load counts", SetupTextTests::latestLoad);
    }

    private static void newObject() {
        PermitPark park = new PermitPark();
        int[] due = {0, 1, 0, 0, 1, 0, 0, 0, 0, 0, 0, 0, 0, 0, 0, 0, 0, 0};
        for (int what = 0; what < due.length; what++) {
            Check.due("count(" + what + ")", park.count(what), due[what]);
        }
        for (int i = 0; i < 8; i++) {
            Check.due("flag", park.flag(i), false);
        }
        for (int i = 0; i < 6; i++) {
            Check.due("lock", park.lock(i, 0), PermitPark.NONE);
            Check.due("lock", park.lock(i, 1), PermitPark.NONE);
        }
        Check.due("errorCode()", park.errorCode(), 0);
        Check.due("errorPosition()", park.errorPosition(), -1);
        Check.due("next()", park.next(), -1);
        Check.due("stuck()", park.stuck(), 0);
        Check.dueReal("busy()", park.busy(), 0.0);
        Check.due("truncateText(0)", park.truncateText(0), 0);
        Check.dueThrow("truncateText(1)", IllegalArgumentException.class, () -> park.truncateText(1));
        Check.dueThrow("restore(0)", IllegalStateException.class, () -> { park.restore(0); return 0; });
        Check.dueThrow("restore(1)", IllegalStateException.class, () -> { park.restore(1); return 0; });
        Check.due("NONE", PermitPark.NONE, -1);
    }

    private static void append() {
        PermitPark park = new PermitPark();
        for (int i = 1; i <= 199; i++) {
            Check.due("appendText", park.appendText(BLANKS), 4 * i);
        }
        park.truncateText(795);
        Check.due("appendText up to 799", park.appendText(BLANKS), 799);
        Check.dueThrow("appendText at 799", IllegalStateException.class, () -> park.appendText(BLANKS));
        Check.due("truncateText", park.truncateText(797), 797);
        Check.dueThrow("appendText at 797", IllegalStateException.class, () -> park.appendText(BLANKS));
        park.truncateText(796);
        Check.due("appendText up to 800", park.appendText(BLANKS), 800);
        Check.dueThrow("appendText at 800", IllegalStateException.class, () -> park.appendText(BLANKS));
        Check.due("truncateText(800)", park.truncateText(800), 800);
        Check.due("load()", park.load(), 0);
        Check.due("the buffer is empty", park.appendText(BLANKS), 4);
        for (String last : new String[] {"z", "9", ";", "\u00ff"}) {
            PermitPark full = new PermitPark();
            Check.due("load() of 800 bytes", Parks.load(full, "flag 1;" + " ".repeat(792) + last), -1);
            Check.due("errorPosition() of 800 bytes", full.errorPosition(), 799);
        }
        PermitPark long800 = new PermitPark();
        Check.due("load() of a number up to 800", Parks.load(long800, "seed " + "0".repeat(794) + "7"), -1);
        Check.due("errorPosition()", long800.errorPosition(), 800);
        Check.due("load() of 800 bytes", Parks.load(long800, "seed " + "0".repeat(793) + "7;"), 0);
        Check.due("x", long800.count(4), 7);
    }

    private static void byteOrder() {
        PermitPark park = new PermitPark();
        park.appendText('f' << 24 | 'l' << 16 | 'a' << 8 | 'g');
        park.appendText(' ' << 24 | '3' << 16 | ' ' << 8 | ';');
        Check.due("load()", park.load(), 0);
        Check.due("count(10)", park.count(10), 8);
        park.appendText(0xff000000);
        Check.due("load()", park.load(), -1);
        Check.due("errorPosition()", park.errorPosition(), 0);
    }

    private static void truncate() {
        PermitPark park = new PermitPark();
        Parks.write(park, "flag 1; flag 2;");
        Check.due("truncateText(15)", park.truncateText(15), 15);
        Check.dueThrow("truncateText(16)", IllegalArgumentException.class, () -> park.truncateText(16));
        Check.dueThrow("truncateText(-1)", IllegalArgumentException.class, () -> park.truncateText(-1));
        Check.dueThrow("truncateText(least)", IllegalArgumentException.class,
            () -> park.truncateText(Integer.MIN_VALUE));
        Check.due("truncateText(7)", park.truncateText(7), 7);
        Check.dueThrow("truncateText(8)", IllegalArgumentException.class, () -> park.truncateText(8));
        Check.due("load()", park.load(), 0);
        Check.due("count(10)", park.count(10), 2);
        Parks.write(park, "flag 3;flag 12");
        park.truncateText(13);
        Check.due("load()", park.load(), -1);
        Check.due("what was cut off is no part of a token", park.errorCode(), 1);
        Check.due("errorPosition()", park.errorPosition(), 13);
    }

    private static void load() {
        PermitPark park = new PermitPark();
        String setup = "\n thread 007:lock 5,nap 200 , park,\nrun 1;thread1:tell 9;flag 0;flag 7;"
            + "set 0 1000;set 1 0;set 0 00;seed 1000002;seed 17; \n";
        Check.due("load()", Parks.load(park, setup), 2);
        Check.dueText("BASE", Parks.facts(park, 0), "7 1");
        Check.dueText("lengths", Parks.facts(park, 18), "4 1");
        int[] codes = {9, 2, 1, 0};
        int[] numbers = {5, 200, 0, 1};
        for (int i = 0; i < 4; i++) {
            Check.due("code", park.instruction(0, i, 0), codes[i]);
            Check.due("number", park.instruction(0, i, 1), numbers[i]);
        }
        Check.due("code", park.instruction(1, 0, 0), 7);
        Check.due("number", park.instruction(1, 0, 1), 9);
        Check.due("flags", park.count(10), 129);
        Check.due("SPURIOUS", park.count(0), 0);
        Check.due("LENDING", park.count(1), 0);
        Check.due("x", park.count(4), 17);
        Check.due("ready", park.count(5), 2);
        Check.due("the buffer is empty", park.truncateText(0), 0);
        Check.dueThrow("truncateText(1)", IllegalArgumentException.class, () -> park.truncateText(1));
    }

    private static void loadReplaces() {
        PermitPark park = Parks.of("thread 5: lock 1, wake 0, park; flag 3; set 0 10; set 1 0; seed 5;");
        park.run(4);
        park.save(1);
        Check.due("load() of nothing", park.load(), 0);
        Check.dueText("all", Parks.all(park), Parks.all(new PermitPark()));
        park.restore(1);
        Check.due("time", park.count(3), 4);
        Check.due("threads", park.count(2), 1);
        Check.due("load()", Parks.load(park, "thread 2: run 1;"), 1);
        Check.dueText("all", Parks.all(park), Parks.all(Parks.of("thread 2: run 1;")));
    }

    /** Ten threads, that come to all states, and all counters above 0. */
    private static PermitPark used() {
        PermitPark park = Parks.of("thread 9: lock 0, lock 5, await 0; thread 8: lock 0; thread 7: lock 0;"
            + "thread 6: lock 1, nap 90; thread 5: run 1; thread 4: unlock 1; thread 3: lock 1;"
            + "thread 2: wake 4, tell 0, wake 9, wake 9, park, tell 0, run 2, park, run 20;"
            + "thread 1: steal 9, await 3; thread 1: run 20;");
        park.wake(9);
        park.run(15);
        park.wake(7);
        park.run(8);
        for (int i = 0; i < 10; i++) {
            park.wake(i);
            park.wake(i);
            park.interrupt(i);
        }
        park.run(4);
        return park;
    }

    private static void nothingIsLeft() {
        String small = "thread 3: wake 1, wake 1, tell 1, steal 1, run 1;";
        PermitPark counted = used();
        for (int what = 5; what <= 17; what++) {
            Check.due("count(" + what + ") is above 0", counted.count(what) > 0 || what == 10 || what == 12, true);
        }
        // An object is good for 512 calls: one for each look.
        for (int look = 0; look < 4; look++) {
            PermitPark park = used();
            park.ahead(20, 0);
            Check.due("load()", Parks.load(park, small), 1);
            PermitPark fresh = Parks.of(small);
            for (PermitPark one : new PermitPark[] {park, fresh}) {
                goOn(one, look);
            }
            Check.dueText("all, look " + look, Parks.all(park), Parks.all(fresh));
        }
        PermitPark spurious = used();
        Check.due("load()", Parks.load(spurious, "thread 1: run 9; set 0 1000;"), 1);
        spurious.run(3);
        Check.due("no draws for earlier threads", spurious.count(4), 1);
        Check.due("no returns of earlier threads", spurious.count(13), 0);
    }

    private static void goOn(PermitPark park, int look) {
        if (look > 0) {
            park.run(7);
        }
        for (int i = 1; i < 10 && look > 1; i++) {
            Check.due("addThread", park.addThread(i, 0, 3), i);
        }
        if (look > 2) {
            park.run(26);
        }
    }

    private static void wrongTextChangesNothing() {
        PermitPark park = Parks.of("thread 5: lock 1, park; flag 3; set 1 0; seed 5;");
        park.run(3);
        PermitPark same = Parks.of("thread 5: lock 1, park; flag 3; set 1 0; seed 5;");
        same.run(3);
        Check.due("load()", Parks.load(park, "thread 1: run 1; flag 0; set 0 7; seed 1; flag 0;"), -1);
        Check.dueThrow("truncateText(1)", IllegalArgumentException.class, () -> park.truncateText(1));
        Check.due("errorCode()", park.errorCode(), 4);
        Check.due("load() of nothing else", Parks.load(same, "flag 0; set 1 1; seed 3; thread 1: park; flag 0     ;"), -1);
        Check.due("errorPosition()", same.errorPosition(), 46);
        Check.due("errorPosition()", park.errorPosition(), 47);
        for (int what = 0; what <= 17; what++) {
            Check.due("count(" + what + ")", park.count(what), same.count(what));
        }
        Check.dueText("log", Parks.log(park), "0.3.0.1 1.0.0.-1");
        Check.due("BASE", park.thread(0, 0), 5);
        Check.due("count(10)", park.count(10), 8);
        Check.due("count(4)", park.count(4), 5);
    }

    private static void ranges() {
        String[] words = {"run", "park", "nap", "await", "set", "clear", "wake", "tell", "steal", "lock", "unlock"};
        int[] least = {1, 0, 1, 0, 0, 0, 0, 0, 0, 0, 0};
        int[] most = {20, 0, 200, 7, 7, 7, 9, 9, 9, 5, 5};
        for (int code = 0; code < words.length; code++) {
            if (code == 1) {
                continue;
            }
            for (int number : new int[] {least[code], most[code]}) {
                PermitPark park = Parks.of("thread 9: " + words[code] + " " + number + ";");
                Check.due(words[code], park.instruction(0, 0, 0), code);
                Check.due(words[code], park.instruction(0, 0, 1), number);
            }
            error("thread 9: " + words[code] + " " + (most[code] + 1) + ";", 2, 11 + words[code].length());
            if (least[code] == 1) {
                error("thread 9: " + words[code] + " 0;", 2, 11 + words[code].length());
            }
            error("thread 9: " + words[code] + ";", 1, 10 + words[code].length());
        }
        error("thread 9: park 0;", 1, 15);
    }

    private static void error(String setup, int code, int position) {
        PermitPark park = new PermitPark();
        Check.due("load() of " + setup, Parks.load(park, setup), -1);
        Check.due("errorCode() of " + setup, park.errorCode(), code);
        Check.due("errorPosition() of " + setup, park.errorPosition(), position);
        Check.due("threads of " + setup, park.count(2), 0);
    }

    private static void noError() {
        for (String setup : new String[] {"", " ", "\n", "flag 1;", "thread1:run1,run 2;", "set1 0;", "seed\n0;",
            "set 0 5;set 0 7;", "seed 0000000000000000000000000001000002;"}) {
            PermitPark park = new PermitPark();
            Check.due("load() of " + setup, Parks.load(park, setup) >= 0, true);
            Check.due("errorCode() of " + setup, park.errorCode(), 0);
            Check.due("errorPosition() of " + setup, park.errorPosition(), -1);
        }
    }

    private static void notAllowed() {
        error(";", 1, 0);
        error(" 5;", 1, 1);
        error("flag 1", 1, 6);
        error("flag 1  \n", 1, 9);
        error("flag", 1, 4);
        error("flag;", 1, 4);
        error("flag flag 1;", 1, 5);
        error("flag1 2;", 1, 6);
        error("flags 1;", 1, 0);
        error("fla 1;", 1, 0);
        error("flagz 1;", 1, 0);
        error("flaga 1;", 1, 0);
        error("glag 1;", 1, 0);
        error("thread 1: parkz;", 1, 10);
        error("thread 1: bun 1;", 1, 10);
        error("flag 1;;", 1, 7);
        error("run 1;", 1, 0);
        error("park;", 1, 0);
        error("thread 1;", 1, 8);
        error("thread 1:;", 1, 9);
        error("thread 1 run 1;", 1, 9);
        error("thread : run 1;", 1, 7);
        error("thread 1: run 1,;", 1, 16);
        error("thread 1: run 1,", 1, 16);
        error("thread 1: run 1 run 2;", 1, 16);
        error("thread 1: run 1, thread 2: run 1;", 1, 17);
        error("thread 1: run 1: run 2;", 1, 15);
        error("thread 1: flag 1;", 1, 10);
        error("thread 1: seed 1;", 1, 10);
        error("thread 1: runpark;", 1, 10);
        error("thread 1: run park;", 1, 14);
        error("set 0;", 1, 5);
        error("set 0 5 5;", 1, 8);
        error("set 0, 5;", 1, 5);
        error("seed;", 1, 4);
        error("seed 1 seed 2;", 1, 7);
        error("thread", 1, 6);
        error("thread 1: nap", 1, 13);
    }

    private static void strangeBytes() {
        error("Flag 1;", 1, 0);
        error("flaG 1;", 1, 0);
        error("flagX 1;", 1, 4);
        error("flag 1X;", 1, 6);
        error("flag -1;", 1, 5);
        error("flag\t1;", 1, 4);
        error("flag 1;\r", 1, 7);
        error("flag 1.", 1, 6);
        error("\u0000", 1, 0);
        error("flag 1;\u00e9", 1, 7);
        error("flag 1;`", 1, 7);
        error("flag 1;{", 1, 7);
        error("flag /;", 1, 5);
        error("flag <;", 1, 5);
        error("\u00f4hread 1: park;", 1, 0);
        error("flag 1;\u0080", 1, 7);
    }

    private static void outOfRange() {
        error("flag 8;", 2, 5);
        error("flag 99999999999999999999999999;", 2, 5);
        error("flag 4294967297;", 2, 5);
        error("flag 10000000000000000000000000;", 2, 5);
        error("thread 0: run 1;", 2, 7);
        error("thread 10: run 1;", 2, 7);
        error("thread 10", 2, 7);
        error("set 2 0;", 2, 4);
        error("set 0 1001;", 2, 6);
        error("set 1 2;", 2, 6);
        error("seed 1000003;", 2, 5);
        error("seed 4294967296;", 2, 5);
        error("seed 01000003", 2, 5);
        error("thread 1: nap 4294967297;", 2, 14);
    }

    private static void tooMany() {
        StringBuilder ten = new StringBuilder();
        for (int i = 0; i < 10; i++) {
            ten.append("thread 1:park;");
        }
        Check.due("threads", Parks.of(ten.toString()).count(2), 10);
        error(ten + "thread 1: park;", 3, 140);
        error(ten + " thread", 3, 141);
        error(ten + "threads", 1, 140);
        Check.due("threads", Parks.of(ten + "flag 1;").count(10), 2);
        StringBuilder sixteen = new StringBuilder("thread 1:park");
        for (int i = 1; i < 16; i++) {
            sixteen.append(",run 2");
        }
        Check.due("instructions", Parks.of(sixteen + ";").thread(0, 18), 16);
        error(sixteen + ",park;", 3, 104);
        error(sixteen + ", nap 999;", 3, 105);
        error(sixteen + ", naps 999;", 1, 105);
        error(sixteen + ", 5;", 1, 105);
        error(sixteen + ",;", 1, 104);
        error(sixteen + ", flag 1;", 1, 105);
        error(sixteen + ",", 1, 104);
    }

    private static void flagTwice() {
        error("flag 3; flag 3;", 4, 13);
        error("flag 3;flag 03", 4, 12);
        error("flag 3; flag 8;", 2, 13);
        Check.due("flags", Parks.of("flag 3; flag 4;").count(10), 24);
        PermitPark park = new PermitPark();
        park.setFlag(3, true);
        Check.due("a flag that was on ahead of load()", Parks.load(park, "flag 3;"), 0);
    }

    private static void latestLoad() {
        PermitPark park = new PermitPark();
        Check.due("load()", Parks.load(park, "flag 9;"), -1);
        park.save(0);
        Check.due("errorCode()", park.errorCode(), 2);
        Check.due("load()", Parks.load(park, "flag 1;"), 0);
        Check.due("errorCode()", park.errorCode(), 0);
        Check.due("errorPosition()", park.errorPosition(), -1);
        park.restore(0);
        Check.due("errorCode()", park.errorCode(), 0);
        Check.due("load()", Parks.load(park, " ;"), -1);
        Check.due("errorCode()", park.errorCode(), 1);
        Check.due("errorPosition()", park.errorPosition(), 1);
        park.restore(0);
        Check.due("errorCode()", park.errorCode(), 1);
    }
}
