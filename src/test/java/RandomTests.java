import java.lang.reflect.InvocationTargetException;
import java.lang.reflect.Method;
import java.util.ArrayList;
import java.util.HashMap;
import java.util.List;
import java.util.Map;
import java.util.Random;

/** Compares the program with PlainPark, over runs of random calls; the same calls each time. */
final class RandomTests {
    private static final int RUNS = 300;
    /** An object is used for no more calls. */
    private static final int CALLS = 512;
    private static final int[] LEAST = {1, 0, 1, 0, 0, 0, 0, 0, 0, 0, 0};
    private static final int[] MOST = {20, 0, 200, 7, 7, 7, 9, 9, 9, 5, 5};
    private static final String[] WORDS = {"run", "park", "nap", "await", "set", "clear", "wake", "tell", "steal", "lock",
        "unlock"};
    private static final String[] ACTS = {"run", "run", "run", "run", "wake", "interrupt", "rouse", "setBase", "set", "seed",
        "setFlag", "addThread", "addInstruction", "save", "restore"};
    private static final String[] LOOKS = {"count", "count", "thread", "thread", "thread", "instruction", "lock", "lock",
        "flag", "event", "event", "events", "next", "chain", "stuck", "lent", "busy", "doneIn", "returnsIn", "ahead",
        "bestBase", "errorCode", "errorPosition"};

    private final Random random;
    private final PermitPark park = new PermitPark();
    private final PlainPark plain = new PlainPark();
    private final List<String> calls = new ArrayList<>();
    private int threads = 0;
    /** How many locks, flags and ticks a run plays with: few make them meet. */
    private final int locks;
    private final int flags;
    private final int longest;

    private static final Map<String, Method> PARK = methods(PermitPark.class);
    private static final Map<String, Method> PLAIN = methods(PlainPark.class);

    private RandomTests(int seed) {
        random = new Random(seed);
        locks = 1 + random.nextInt(6);
        flags = 1 + random.nextInt(8);
        longest = random.nextInt(4) == 0 ? 500 : 1 + random.nextInt(20);
    }

    static void run() {
        Check.test("random runs against PlainPark", RandomTests::manyRuns);
    }

    private static Map<String, Method> methods(Class<?> type) {
        Map<String, Method> methods = new HashMap<>();
        for (Method method : type.getDeclaredMethods()) {
            if (java.lang.reflect.Modifier.isPublic(method.getModifiers())) {
                methods.put(method.getName(), method);
            }
        }
        return methods;
    }

    private static void manyRuns() {
        for (int seed = 1; seed <= RUNS; seed++) {
            RandomTests one = new RandomTests(seed);
            String wrong = one.oneRun();
            if (wrong != null) {
                throw new IllegalStateException("run " + seed + ": " + wrong);
            }
        }
    }

    /** Returns what was wrong, or null. */
    private String oneRun() {
        if (random.nextInt(3) > 0) {
            String wrong = loadText();
            if (wrong != null) {
                return wrong;
            }
        }
        int built = threads > 0 ? 0 : 10 + random.nextInt(60);
        while (calls.size() < CALLS) {
            String name;
            if (built > 0) {
                built--;
                name = random.nextInt(3) == 0 ? "addThread" : "addInstruction";
            } else if (random.nextInt(5) < 2) {
                name = ACTS[random.nextInt(ACTS.length)];
            } else {
                name = LOOKS[random.nextInt(LOOKS.length)];
            }
            String wrong = compare(name, arguments(name));
            if (wrong != null) {
                return wrong;
            }
            if (random.nextInt(200) == 0 && calls.size() < CALLS - 210) {
                wrong = loadText();
                if (wrong != null) {
                    return wrong;
                }
            }
        }
        return null;
    }

    private String loadText() {
        byte[] text = spoil(setup()).getBytes(java.nio.charset.StandardCharsets.ISO_8859_1);
        int length = Math.min(800, text.length);
        for (int i = 0; i < length; i += 4) {
            int four = 0;
            for (int k = 0; k < 4; k++) {
                four = four << 8 | (i + k < length ? text[i + k] & 255 : 32);
            }
            String wrong = compare("appendText", four);
            if (wrong != null) {
                return wrong;
            }
        }
        String wrong = compare("truncateText", length);
        wrong = wrong == null ? compare("load") : wrong;
        wrong = wrong == null ? compare("errorCode") : wrong;
        wrong = wrong == null ? compare("errorPosition") : wrong;
        return wrong;
    }

    private String setup() {
        StringBuilder text = new StringBuilder();
        int statements = random.nextInt(14);
        for (int i = 0; i < statements; i++) {
            switch (random.nextInt(9)) {
                case 0:
                    text.append("flag ").append(random.nextInt(8)).append(";");
                    break;
                case 1:
                    text.append("set 0 ").append(random.nextInt(3) * random.nextInt(501)).append(" ;");
                    break;
                case 2:
                    text.append("seed ").append(random.nextInt(1000003)).append(";\n");
                    break;
                default:
                    text.append("thread ").append(1 + random.nextInt(9)).append(":");
                    int length = random.nextInt(20) == 0 ? 17 : 1 + random.nextInt(9);
                    for (int k = 0; k < length; k++) {
                        int code = random.nextInt(11);
                        text.append(k == 0 ? "" : ",").append(WORDS[code]);
                        text.append(code == 1 ? "" : " " + number(code));
                    }
                    text.append(";");
                    break;
            }
        }
        return text.toString();
    }

    /** Makes most texts wrong somewhere, in few ways. */
    private String spoil(String text) {
        StringBuilder spoilt = new StringBuilder(text);
        if (random.nextInt(2) == 0 || spoilt.length() == 0) {
            return text;
        }
        int at = random.nextInt(spoilt.length());
        String signs = " \n;,:0159az{`/-A\u0000\u00e9";
        switch (random.nextInt(4)) {
            case 0:
                spoilt.setCharAt(at, signs.charAt(random.nextInt(signs.length())));
                break;
            case 1:
                spoilt.insert(at, signs.charAt(random.nextInt(signs.length())));
                break;
            case 2:
                spoilt.deleteCharAt(at);
                break;
            default:
                spoilt.setLength(at);
                break;
        }
        return spoilt.toString();
    }

    private int number(int code) {
        switch (code) {
            case 0:
            case 2:
                return 1 + random.nextInt(random.nextInt(4) == 0 ? MOST[code] : 6);
            case 1:
                return 0;
            case 3:
            case 4:
            case 5:
                return random.nextInt(flags);
            case 6:
            case 7:
            case 8:
                return random.nextInt(10) == 0 ? random.nextInt(10) : random.nextInt(Math.max(1, threads));
            default:
                return random.nextInt(locks);
        }
    }

    private int wild(int least, int most) {
        switch (random.nextInt(60)) {
            case 0:
                return least - 1;
            case 1:
                return most + 1;
            case 2:
                return random.nextInt();
            default:
                return least + random.nextInt(most - least + 1);
        }
    }

    private int aThread() {
        return wild(0, Math.max(0, threads - 1));
    }

    private Object[] arguments(String name) {
        int code = wild(0, 10);
        boolean isCode = code >= 0 && code <= 10;
        int number = !isCode ? 0 : random.nextInt(20) == 0 ? wild(LEAST[code], MOST[code]) : number(code);
        switch (name) {
            case "run":
                return new Object[] {wild(1, longest)};
            case "wake":
            case "interrupt":
            case "rouse":
            case "lent":
                return new Object[] {aThread()};
            case "setBase":
                return new Object[] {aThread(), wild(1, 9)};
            case "set":
                int what = wild(0, 1);
                return new Object[] {what, what == 0 ? wild(0, 1000) * random.nextInt(2) : wild(0, 1)};
            case "seed":
                return new Object[] {wild(0, 1000002)};
            case "setFlag":
                return new Object[] {wild(0, 7), random.nextBoolean()};
            case "addThread":
                return new Object[] {wild(1, 9), code, number};
            case "addInstruction":
                return new Object[] {aThread(), code, number};
            case "save":
            case "restore":
                return new Object[] {wild(0, 1)};
            case "count":
                return new Object[] {wild(0, 17)};
            case "thread":
                return new Object[] {aThread(), wild(0, 18)};
            case "instruction":
                return new Object[] {aThread(), wild(0, 15), wild(0, 1)};
            case "lock":
                return new Object[] {wild(0, locks - 1), wild(0, 4)};
            case "flag":
                return new Object[] {wild(0, 7)};
            case "event":
                return new Object[] {wild(0, 39), wild(0, 3)};
            case "events":
                return new Object[] {wild(0, 9), random.nextInt(3) == 0 ? -1 : aThread()};
            case "chain":
                return new Object[] {aThread(), wild(0, 5)};
            case "doneIn":
            case "returnsIn":
                return new Object[] {aThread(), wild(1, random.nextInt(4) == 0 ? 500 : 60)};
            case "bestBase":
                return new Object[] {aThread(), wild(1, random.nextInt(8) == 0 ? 200 : 40)};
            case "ahead":
                return new Object[] {wild(1, random.nextInt(4) == 0 ? 500 : 60), wild(0, 3)};
            default:
                return new Object[0];
        }
    }

    private String compare(String name, Object... arguments) {
        String want = answer(PLAIN.get(name), plain, arguments);
        String got = answer(PARK.get(name), park, arguments);
        calls.add(name + java.util.Arrays.toString(arguments) + " " + got);
        threads = plain.count(2);
        if (got.equals(want)) {
            return null;
        }
        return "call " + calls.size() + ", " + name + java.util.Arrays.toString(arguments) + " answered " + got
            + ", due is " + want + ", behind " + calls.subList(Math.max(0, calls.size() - 12), calls.size());
    }

    private static String answer(Method method, Object object, Object[] arguments) {
        try {
            return String.valueOf(method.invoke(object, arguments));
        } catch (InvocationTargetException e) {
            return "throws." + e.getCause().getClass().getName();
        } catch (IllegalAccessException e) {
            throw new IllegalStateException(e);
        }
    }
}
