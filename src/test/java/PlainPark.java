import java.math.BigInteger;
import java.nio.charset.StandardCharsets;
import java.util.ArrayList;
import java.util.Arrays;
import java.util.Comparator;
import java.util.List;
import java.util.Optional;
import java.util.TreeSet;
import java.util.regex.Matcher;
import java.util.regex.Pattern;
import java.util.stream.IntStream;

/**
 * The document said once more, with the whole library and without a thought for speed: RandomTests compares the
 * program with it, call by call. It shares no code with the program, so that a slip in one shows against the other.
 */
public final class PlainPark {
    private static final List<String> WORDS = List.of("run", "park", "nap", "await", "set", "clear", "wake", "tell",
        "steal", "lock", "unlock");
    private static final int[][] RANGES = {{1, 20}, {0, 0}, {1, 200}, {0, 7}, {0, 7}, {0, 7}, {0, 9}, {0, 9}, {0, 9},
        {0, 5}, {0, 5}};

    private static final class Fiber {
        int base;
        List<int[]> program = new ArrayList<>();
        int place = 0;
        int left = 0;
        String state = "ready";
        boolean permit = false;
        boolean interrupt = false;
        int cause = 0;
        int deadline = -1;
        int ran = 0;
        int ranLast = -1;
        int parked = 0;
        int[] returned = new int[5];
        List<Integer> priorities = new ArrayList<>();

        Fiber copy() {
            Fiber other = new Fiber();
            other.base = base;
            other.program = new ArrayList<>(program);
            other.place = place;
            other.left = left;
            other.state = state;
            other.permit = permit;
            other.interrupt = interrupt;
            other.cause = cause;
            other.deadline = deadline;
            other.ran = ran;
            other.ranLast = ranLast;
            other.parked = parked;
            other.returned = returned.clone();
            other.priorities = new ArrayList<>(priorities);
            return other;
        }
    }

    private static final class World {
        List<Fiber> fibers = new ArrayList<>();
        /** Of each lock its holder, then those that are blocked at it. */
        List<List<Integer>> locks = new ArrayList<>();
        TreeSet<Integer> flags = new TreeSet<>();
        List<int[]> events = new ArrayList<>();
        int[] settings = {0, 1};
        int time = 0;
        int x = 1;
        int idle = 0;
        int merged = 0;
        int wasted = 0;
        int stolen = 0;
        int told = 0;
        int ranNow = -1;

        World() {
            for (int i = 0; i < 6; i++) {
                locks.add(new ArrayList<>());
            }
        }

        World copy() {
            World other = new World();
            for (Fiber fiber : fibers) {
                other.fibers.add(fiber.copy());
            }
            for (int i = 0; i < 6; i++) {
                other.locks.set(i, new ArrayList<>(locks.get(i)));
            }
            other.flags = new TreeSet<>(flags);
            other.events = new ArrayList<>(events);
            other.settings = settings.clone();
            other.time = time;
            other.x = x;
            other.idle = idle;
            other.merged = merged;
            other.wasted = wasted;
            other.stolen = stolen;
            other.told = told;
            return other;
        }

        void note(int kind, int thread, int number) {
            events.add(new int[] {time, kind, thread, number});
        }

        int priority(int thread) {
            if (settings[1] == 0) {
                return fibers.get(thread).base;
            }
            TreeSet<Integer> lenders = new TreeSet<>(List.of(thread));
            int size = 0;
            while (size < lenders.size()) {
                size = lenders.size();
                for (List<Integer> lock : locks) {
                    if (!lock.isEmpty() && lenders.contains(lock.get(0))) {
                        lenders.addAll(lock);
                    }
                }
            }
            return lenders.stream().mapToInt(i -> fibers.get(i).base).max().getAsInt();
        }

        int blockedAt(int thread) {
            return IntStream.range(0, 6).filter(i -> locks.get(i).indexOf(thread) > 0).findFirst().orElse(-1);
        }

        int holds(int thread) {
            return IntStream.range(0, 6).filter(i -> locks.get(i).indexOf(thread) == 0).map(i -> 1 << i).sum();
        }

        void onward(int thread) {
            Fiber fiber = fibers.get(thread);
            fiber.place++;
            fiber.left = 0;
            endIfBehind(thread);
        }

        void endIfBehind(int thread) {
            Fiber fiber = fibers.get(thread);
            if (!fiber.state.equals("ready") || fiber.place < fiber.program.size()) {
                return;
            }
            fiber.state = "done";
            note(5, thread, 0);
            for (int lock = 0; lock < 6; lock++) {
                if (locks.get(lock).indexOf(thread) == 0) {
                    give(lock);
                }
            }
        }

        void give(int lock) {
            List<Integer> line = locks.get(lock);
            List<Integer> blocked = line.subList(1, line.size());
            Optional<Integer> next = blocked.stream().sorted(Comparator.comparing(i -> -priority(i))).findFirst();
            note(4, line.get(0), lock);
            line.remove(0);
            if (next.isPresent()) {
                line.remove(next.get());
                line.add(0, next.get());
                fibers.get(next.get()).state = "ready";
                note(3, next.get(), lock);
                onward(next.get());
            }
        }

        void park(int thread, int deadline) {
            Fiber fiber = fibers.get(thread);
            if (fiber.interrupt) {
                fiber.interrupt = false;
                fiber.cause = 4;
                return;
            }
            if (fiber.permit) {
                fiber.permit = false;
                fiber.cause = 1;
                return;
            }
            fiber.state = "parked";
            fiber.deadline = deadline;
            fiber.parked++;
            note(0, thread, deadline);
        }

        void comeBack(int thread, int cause) {
            Fiber fiber = fibers.get(thread);
            fiber.state = "ready";
            fiber.deadline = -1;
            fiber.cause = cause;
            fiber.returned[cause]++;
            note(1, thread, cause);
            endIfBehind(thread);
        }

        int wakeup(int thread, int by) {
            Fiber fiber = fibers.get(thread);
            switch (fiber.state) {
                case "parked":
                    comeBack(thread, 1);
                    return 0;
                case "done":
                case "faulty":
                    wasted++;
                    return 3;
                default:
                    if (!fiber.permit) {
                        fiber.permit = true;
                        return 1;
                    }
                    merged++;
                    note(7, thread, by);
                    return 2;
            }
        }

        void fault(int thread) {
            fibers.get(thread).state = "faulty";
            note(6, thread, fibers.get(thread).place);
        }

        void instruct(int me) {
            Fiber fiber = fibers.get(me);
            int n = fiber.program.get(fiber.place)[1];
            boolean isThere = n < fibers.size();
            switch (WORDS.get(fiber.program.get(fiber.place)[0])) {
                case "run":
                    fiber.left = fiber.left == 0 ? n : fiber.left;
                    if (--fiber.left > 0) {
                        return;
                    }
                    break;
                case "park":
                    park(me, -1);
                    break;
                case "nap":
                    park(me, time + n);
                    break;
                case "await":
                    if (!flags.contains(n)) {
                        park(me, -1);
                        return;
                    }
                    break;
                case "set":
                    flags.add(n);
                    break;
                case "clear":
                    flags.remove(n);
                    break;
                case "wake":
                    if (isThere) {
                        wakeup(n, me);
                    }
                    break;
                case "tell":
                    if (fiber.cause == 1) {
                        if (isThere) {
                            told++;
                            note(9, me, n);
                            wakeup(n, me);
                        }
                        fiber.cause = 0;
                    }
                    break;
                case "steal":
                    if (isThere && n != me && fibers.get(n).permit) {
                        fibers.get(n).permit = false;
                        fiber.permit = true;
                        stolen++;
                        note(8, me, n);
                    }
                    break;
                case "lock":
                    List<Integer> line = locks.get(n);
                    if (!line.isEmpty() && line.get(0) == me) {
                        fault(me);
                        return;
                    }
                    line.add(me);
                    if (line.size() > 1) {
                        fiber.state = "blocked";
                        note(2, me, n);
                        return;
                    }
                    note(3, me, n);
                    break;
                default:
                    if (locks.get(n).indexOf(me) != 0) {
                        fault(me);
                        return;
                    }
                    give(n);
                    break;
            }
            onward(me);
        }

        void tick() {
            for (int i = 0; i < fibers.size(); i++) {
                fibers.get(i).priorities.add(priority(i));
            }
            IntStream.range(0, fibers.size()).boxed()
                .filter(i -> fibers.get(i).state.equals("parked"))
                .filter(i -> fibers.get(i).deadline >= 0 && fibers.get(i).deadline <= time)
                .sorted(Comparator.comparing((Integer i) -> fibers.get(i).deadline).thenComparing(i -> i))
                .toList().forEach(i -> comeBack(i, 2));
            for (int i = 0; i < fibers.size() && settings[0] > 0; i++) {
                if (fibers.get(i).state.equals("parked")) {
                    x = (int) ((1103L * x + 12345L) % 1000003L);
                    if (x % 1000 < settings[0]) {
                        comeBack(i, 3);
                    }
                }
            }
            Optional<Integer> first = IntStream.range(0, fibers.size()).boxed()
                .filter(i -> fibers.get(i).state.equals("ready"))
                .min(Comparator.comparing((Integer i) -> -priority(i)).thenComparing(i -> fibers.get(i).ranLast)
                    .thenComparing(i -> i));
            ranNow = first.orElse(-1);
            if (first.isPresent()) {
                fibers.get(ranNow).ran++;
                fibers.get(ranNow).ranLast = time;
                instruct(ranNow);
            } else {
                idle++;
            }
            time++;
        }

        long in(String state) {
            return fibers.stream().filter(i -> i.state.equals(state)).count();
        }

        int returns() {
            return fibers.stream().mapToInt(i -> Arrays.stream(i.returned).sum()).sum();
        }

        int blocker(int thread) {
            int lock = blockedAt(thread);
            return lock < 0 ? -1 : locks.get(lock).get(0);
        }

        List<Integer> chain(int thread) {
            List<Integer> told = new ArrayList<>();
            int next = blocker(thread);
            while (next >= 0 && next != thread && !told.contains(next)) {
                told.add(next);
                next = blocker(next);
            }
            return told;
        }
    }

    private static final class Wrong extends Exception {
        private static final long serialVersionUID = 1L;
        final int code;
        final int position;

        Wrong(int code, int position) {
            this.code = code;
            this.position = position;
        }
    }

    /** A token; at the end of the text it is empty, a byte that belongs to none is one of its own. */
    private record Token(String text, int position) {
        boolean isNumber() {
            return text.matches("[0-9]+");
        }
    }

    private World world = new World();
    private byte[] text = new byte[0];
    private int errorCode = 0;
    private int errorPosition = -1;
    private final World[] saved = new World[2];
    private List<Token> tokens = new ArrayList<>();

    public int appendText(int fourBytes) {
        if (text.length > 796) {
            throw new IllegalStateException();
        }
        byte[] longer = Arrays.copyOf(text, text.length + 4);
        for (int i = 0; i < 4; i++) {
            longer[text.length + i] = (byte) (fourBytes >>> 24 - 8 * i);
        }
        text = longer;
        return text.length;
    }

    public int truncateText(int length) {
        argument(length >= 0 && length <= text.length);
        text = Arrays.copyOf(text, length);
        return length;
    }

    public int load() {
        String all = new String(text, StandardCharsets.ISO_8859_1);
        text = new byte[0];
        tokens = new ArrayList<>();
        Matcher matcher = Pattern.compile("[ \n]+|([a-z]+|[0-9]+|(?s:.))").matcher(all);
        while (matcher.find()) {
            if (matcher.group(1) != null) {
                tokens.add(new Token(matcher.group(1), matcher.start()));
            }
        }
        tokens.add(new Token("", all.length()));
        World read = new World();
        try {
            while (!tokens.get(0).text().isEmpty()) {
                statement(read);
                symbol(";");
            }
        } catch (Wrong wrong) {
            errorCode = wrong.code;
            errorPosition = wrong.position;
            return -1;
        }
        errorCode = 0;
        errorPosition = -1;
        world = read;
        return world.fibers.size();
    }

    private void statement(World read) throws Wrong {
        Token word = tokens.remove(0);
        switch (word.text()) {
            case "thread":
                wrongIf(read.fibers.size() == 10, 3, word);
                Fiber fiber = new Fiber();
                fiber.base = number(1, 9);
                symbol(":");
                read.fibers.add(fiber);
                instruction(fiber);
                while (tokens.get(0).text().equals(",")) {
                    tokens.remove(0);
                    instruction(fiber);
                }
                break;
            case "flag":
                Token number = tokens.get(0);
                wrongIf(!read.flags.add(number(0, 7)), 4, number);
                break;
            case "set":
                int what = number(0, 1);
                read.settings[what] = number(0, what == 0 ? 1000 : 1);
                break;
            case "seed":
                read.x = number(0, 1000002);
                break;
            default:
                throw new Wrong(1, word.position());
        }
    }

    private void instruction(Fiber fiber) throws Wrong {
        Token word = tokens.remove(0);
        int code = WORDS.indexOf(word.text());
        wrongIf(code < 0, 1, word);
        wrongIf(fiber.program.size() == 16, 3, word);
        int number = word.text().equals("park") ? 0 : number(RANGES[code][0], RANGES[code][1]);
        fiber.program.add(new int[] {code, number});
    }

    private int number(int least, int most) throws Wrong {
        Token token = tokens.remove(0);
        wrongIf(!token.isNumber(), 1, token);
        BigInteger value = new BigInteger(token.text());
        wrongIf(value.compareTo(BigInteger.valueOf(least)) < 0 || value.compareTo(BigInteger.valueOf(most)) > 0, 2, token);
        return value.intValueExact();
    }

    private void symbol(String symbol) throws Wrong {
        Token token = tokens.remove(0);
        wrongIf(!token.text().equals(symbol), 1, token);
    }

    private static void wrongIf(boolean isWrong, int code, Token token) throws Wrong {
        if (isWrong) {
            throw new Wrong(code, token.position());
        }
    }

    public int errorCode() {
        return errorCode;
    }

    public int errorPosition() {
        return errorPosition;
    }

    public int addThread(int base, int code, int number) {
        argument(base >= 1 && base <= 9 && isInstruction(code, number));
        state(world.fibers.size() < 10);
        Fiber fiber = new Fiber();
        fiber.base = base;
        fiber.program.add(new int[] {code, number});
        world.fibers.add(fiber);
        return world.fibers.size() - 1;
    }

    public int addInstruction(int thread, int code, int number) {
        Fiber fiber = fiber(thread);
        argument(isInstruction(code, number));
        state(fiber.program.size() < 16 && !List.of("done", "faulty").contains(fiber.state));
        fiber.program.add(new int[] {code, number});
        return fiber.program.size();
    }

    private static boolean isInstruction(int code, int number) {
        return code >= 0 && code < RANGES.length && number >= RANGES[code][0] && number <= RANGES[code][1];
    }

    public int setBase(int thread, int base) {
        Fiber fiber = fiber(thread);
        argument(base >= 1 && base <= 9);
        int before = fiber.base;
        fiber.base = base;
        return before;
    }

    public int set(int what, int value) {
        argument(what == 0 && value >= 0 && value <= 1000 || what == 1 && value >= 0 && value <= 1);
        int before = world.settings[what];
        world.settings[what] = value;
        return before;
    }

    public void seed(int seed) {
        argument(seed >= 0 && seed <= 1000002);
        world.x = seed;
    }

    public boolean setFlag(int flag, boolean isOn) {
        index(flag >= 0 && flag <= 7);
        return isOn ? !world.flags.add(flag) : world.flags.remove(flag);
    }

    public int count(int what) {
        argument(what >= 0 && what <= 17);
        long[] all = {world.settings[0], world.settings[1], world.fibers.size(), world.time, world.x, world.in("ready"),
            world.in("parked"), world.in("blocked"), world.in("done"), world.in("faulty"),
            world.flags.stream().mapToInt(i -> 1 << i).sum(),
            IntStream.range(0, 6).filter(i -> !world.locks.get(i).isEmpty()).map(i -> 1 << i).sum(), world.idle,
            log().size(), world.merged, world.wasted, world.stolen, world.told};
        return (int) all[what];
    }

    public int thread(int thread, int what) {
        Fiber fiber = fiber(thread);
        argument(what >= 0 && what <= 18);
        int greatest = fiber.priorities.stream().mapToInt(i -> i).max().orElse(fiber.base);
        int[] all = {fiber.base, world.priority(thread),
            List.of("ready", "parked", "blocked", "done", "faulty").indexOf(fiber.state), fiber.place,
            fiber.permit ? 1 : 0, fiber.interrupt ? 1 : 0, fiber.cause, fiber.deadline, world.blockedAt(thread),
            world.holds(thread), fiber.ran, fiber.ranLast, fiber.parked, fiber.returned[1], fiber.returned[2],
            fiber.returned[3], fiber.returned[4], greatest, fiber.program.size()};
        return all[what];
    }

    public int instruction(int thread, int index, int what) {
        Fiber fiber = fiber(thread);
        index(index >= 0 && index < fiber.program.size());
        argument(what == 0 || what == 1);
        return fiber.program.get(index)[what];
    }

    public int lock(int lock, int index) {
        index(lock >= 0 && lock <= 5 && index >= 0);
        List<Integer> line = world.locks.get(lock);
        return index < line.size() ? line.get(index) : -1;
    }

    public boolean flag(int flag) {
        index(flag >= 0 && flag <= 7);
        return world.flags.contains(flag);
    }

    private List<int[]> log() {
        return world.events.subList(Math.max(0, world.events.size() - 40), world.events.size());
    }

    public int event(int event, int what) {
        index(event >= 0 && event < log().size());
        argument(what >= 0 && what <= 3);
        return log().get(event)[what];
    }

    public int events(int kind, int thread) {
        index(thread >= -1 && thread < world.fibers.size());
        argument(kind >= 0 && kind <= 9);
        return (int) log().stream().filter(i -> i[1] == kind && (thread == -1 || i[2] == thread)).count();
    }

    public int wake(int thread) {
        fiber(thread);
        return world.wakeup(thread, -1);
    }

    public int interrupt(int thread) {
        Fiber fiber = fiber(thread);
        if (fiber.state.equals("parked")) {
            world.comeBack(thread, 4);
            return 0;
        }
        if (fiber.state.equals("done") || fiber.state.equals("faulty")) {
            return 3;
        }
        boolean had = fiber.interrupt;
        fiber.interrupt = true;
        return had ? 2 : 1;
    }

    public boolean rouse(int thread) {
        if (!fiber(thread).state.equals("parked")) {
            return false;
        }
        world.comeBack(thread, 3);
        return true;
    }

    public int run(int ticks) {
        argument(ticks >= 1 && ticks <= 500);
        long before = world.in("done");
        for (int i = 0; i < ticks; i++) {
            world.tick();
        }
        return (int) (world.in("done") - before);
    }

    private World later(int ticks) {
        World copy = world.copy();
        for (int i = 0; i < ticks; i++) {
            copy.tick();
        }
        return copy;
    }

    public int next() {
        return later(1).ranNow;
    }

    public int chain(int thread, int index) {
        fiber(thread);
        index(index >= 0);
        List<Integer> chain = world.chain(thread);
        return index < chain.size() ? chain.get(index) : -1;
    }

    public int stuck() {
        int stuck = 0;
        for (int i = 0; i < world.fibers.size(); i++) {
            List<Integer> chain = world.chain(i);
            int last = chain.isEmpty() ? i : chain.get(chain.size() - 1);
            // A last one that is blocked waits for one that was told already: a ring.
            if (List.of("done", "faulty", "blocked").contains(world.fibers.get(last).state)) {
                stuck |= 1 << i;
            }
        }
        return stuck;
    }

    public float lent(int thread) {
        Fiber fiber = fiber(thread);
        return (float) world.priority(thread) / (float) fiber.base;
    }

    public double busy() {
        return world.time == 0 ? 0.0 : (double) (world.time - world.idle) / (double) world.time;
    }

    public int doneIn(int thread, int most) {
        fiber(thread);
        argument(most >= 1 && most <= 500);
        return doneIn(world.copy(), thread, most);
    }

    private static int doneIn(World copy, int thread, int most) {
        int ticks = 0;
        while (!copy.fibers.get(thread).state.equals("done")) {
            if (ticks == most) {
                return -1;
            }
            copy.tick();
            ticks++;
        }
        return ticks;
    }

    public int returnsIn(int thread, int most) {
        fiber(thread);
        argument(most >= 1 && most <= 500);
        World copy = world.copy();
        int size = copy.events.size();
        for (int k = 1; k <= most; k++) {
            copy.tick();
            if (copy.events.subList(size, copy.events.size()).stream().anyMatch(i -> i[1] == 1 && i[2] == thread)) {
                return k;
            }
        }
        return -1;
    }

    public int ahead(int ticks, int what) {
        argument(ticks >= 1 && ticks <= 500 && what >= 0 && what <= 3);
        World copy = later(ticks);
        int[] all = {(int) copy.in("done"), copy.idle - world.idle, copy.returns() - world.returns(),
            copy.events.size() - world.events.size()};
        return all[what];
    }

    public int bestBase(int thread, int most) {
        fiber(thread);
        argument(most >= 1 && most <= 200);
        TreeSet<Integer> found = new TreeSet<>();
        for (int base = 1; base <= 9; base++) {
            World copy = world.copy();
            copy.fibers.get(thread).base = base;
            int ticks = doneIn(copy, thread, most);
            if (ticks >= 0) {
                found.add(ticks * 10 + base);
            }
        }
        return found.isEmpty() ? -1 : found.first() % 10;
    }

    public void save(int slot) {
        argument(slot == 0 || slot == 1);
        saved[slot] = world.copy();
    }

    public void restore(int slot) {
        argument(slot == 0 || slot == 1);
        state(saved[slot] != null);
        world = saved[slot].copy();
    }

    private Fiber fiber(int thread) {
        index(thread >= 0 && thread < world.fibers.size());
        return world.fibers.get(thread);
    }

    private static void index(boolean isRight) {
        if (!isRight) {
            throw new IndexOutOfBoundsException();
        }
    }

    private static void argument(boolean isRight) {
        if (!isRight) {
            throw new IllegalArgumentException();
        }
    }

    private static void state(boolean isRight) {
        if (!isRight) {
            throw new IllegalStateException();
        }
    }
}
