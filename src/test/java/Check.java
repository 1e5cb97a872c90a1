import java.util.ArrayList;
import java.util.List;

/** Counts what is as due and tells what is not. */
final class Check {
    /** A call whose answer is a number; a boolean counts 1 or 0, a call without an answer 0. */
    interface Call {
        long answer();
    }

    private static int passed = 0;
    private static int failed = 0;
    private static List<String> wrongs = new ArrayList<>();

    private Check() {
    }

    /** Runs one test; it has passed if no check in it was wrong and nothing was thrown. */
    static void test(String name, Runnable body) {
        wrongs = new ArrayList<>();
        try {
            body.run();
        } catch (RuntimeException e) {
            wrongs.add("threw " + e);
        }
        if (wrongs.isEmpty()) {
            passed++;
            return;
        }
        failed++;
        for (String wrong : wrongs.subList(0, Math.min(5, wrongs.size()))) {
            System.out.println(name + ": " + wrong);
        }
    }

    static void due(String call, long got, long want) {
        if (got != want) {
            wrongs.add(call + " answered " + got + ", due is " + want);
        }
    }

    static void due(String call, boolean got, boolean want) {
        due(call, got ? 1 : 0, want ? 1 : 0);
    }

    static void dueReal(String call, double got, double want) {
        if (Double.compare(got, want) != 0) {
            wrongs.add(call + " answered " + got + ", due is " + want);
        }
    }

    static void dueText(String what, String got, String want) {
        if (!got.equals(want)) {
            wrongs.add(what + " is " + got + ", due is " + want);
        }
    }

    static void dueThrow(String call, Class<? extends RuntimeException> want, Call body) {
        String got = "nothing";
        try {
            body.answer();
        } catch (RuntimeException e) {
            got = e.getClass().getName();
        }
        if (!got.equals(want.getName())) {
            wrongs.add(call + " threw " + got + ", due is " + want.getName());
        }
    }

    static int passed() {
        return passed;
    }

    static int failed() {
        return failed;
    }
}
