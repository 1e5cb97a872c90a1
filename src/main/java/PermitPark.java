/** Threads that park and are woken, in a machine that runs one of them in each tick. */
public final class PermitPark {
    public static final int NONE = -1;

    private static final int THREADS_MOST = 10;
    private static final int PROGRAM_MOST = 16;
    private static final int LOCKS = 6;
    private static final int FLAGS = 8;
    private static final int SLOTS = 2;
    private static final int BASE_MOST = 9;
    private static final int TICKS_MOST = 500;
    private static final int COMPARED_TICKS_MOST = 200;
    private static final int TEXT_MOST = 800;

    /** The greatest parameters of count(what) and thread(.., what). */
    private static final int COUNT_LAST = 17;
    private static final int FACT_LAST = 18;
    private static final int FACT_HELD_LOCKS = 9;

    private static final int SPURIOUS = 0;
    private static final int LENDING = 1;
    private static final int SETTINGS = 2;
    private static final int SPURIOUS_MOST = 1000;

    private static final int X_FIRST = 1;
    private static final int X_FACTOR = 1103;
    private static final int X_STEP = 12345;
    private static final int X_MODULUS = 1000003;

    private static final int READY = 0;
    private static final int PARKED = 1;
    private static final int BLOCKED = 2;
    private static final int DONE = 3;
    private static final int FAULTY = 4;

    private static final int NO_CAUSE_YET = 0;
    private static final int BY_WAKEUP = 1;
    private static final int BY_TIMEOUT = 2;
    private static final int WITHOUT_CAUSE = 3;
    private static final int BY_INTERRUPT = 4;
    private static final int CAUSES = 5;

    private static final int EVENT_PARKED = 0;
    private static final int EVENT_RETURNED = 1;
    private static final int EVENT_BLOCKED = 2;
    private static final int EVENT_GOT_LOCK = 3;
    private static final int EVENT_GAVE_UP_LOCK = 4;
    private static final int EVENT_DONE = 5;
    private static final int EVENT_FAULTY = 6;
    private static final int EVENT_MERGED = 7;
    private static final int EVENT_STOLEN = 8;
    private static final int EVENT_TOLD_ON = 9;
    private static final int EVENT_KINDS = 10;

    private static final Op[] OPS = Op.values();

    private final SetupText text = new SetupText();
    private final Machine live = new Machine();
    /** For what may be thrown away: predictions, and a setup that is read but perhaps wrong. */
    private final Machine trial = new Machine();
    private final Machine[] saved = {new Machine(), new Machine()};
    private final boolean[] isSaved = new boolean[SLOTS];

    public PermitPark() {
    }

    // ---- setup texts

    public int appendText(int fourBytes) throws IllegalStateException {
        if (text.length + 4 > TEXT_MOST) {
            throw new IllegalStateException("the text would be too long");
        }
        text.append(fourBytes);
        return text.length;
    }

    public int truncateText(int length) throws IllegalArgumentException {
        needInRange(length, 0, text.length);
        text.length = length;
        return length;
    }

    public int load() {
        trial.clear();
        text.startReading();
        for (int i = 0; i < TEXT_MOST && text.hasStatement(); i++) {
            text.readStatement(trial);
        }
        text.length = 0;
        if (text.errorCode != 0) {
            return NONE;
        }
        live.copyFrom(trial);
        return live.threadCount;
    }

    public int errorCode() {
        return text.errorCode;
    }

    public int errorPosition() {
        return text.errorPosition;
    }

    // ---- threads and settings

    public int addThread(int base, int code, int number) throws IllegalArgumentException, IllegalStateException {
        needInRange(base, 1, BASE_MOST);
        needInstruction(code, number);
        if (live.isFull()) {
            throw new IllegalStateException("there are 10 threads");
        }
        live.newThread(base).addStep(code, number);
        return live.threadCount - 1;
    }

    public int addInstruction(int thread, int code, int number)
            throws IndexOutOfBoundsException, IllegalArgumentException, IllegalStateException {
        needThread(thread);
        needInstruction(code, number);
        Strand strand = live.threads[thread];
        if (strand.length >= PROGRAM_MOST || strand.isOver()) {
            throw new IllegalStateException("the program is full or at its end");
        }
        strand.addStep(code, number);
        return strand.length;
    }

    public int setBase(int thread, int base) throws IndexOutOfBoundsException, IllegalArgumentException {
        needThread(thread);
        needInRange(base, 1, BASE_MOST);
        int previous = live.threads[thread].base;
        live.changeBase(thread, base);
        return previous;
    }

    public int set(int what, int value) throws IllegalArgumentException {
        needInRange(what, 0, SETTINGS - 1);
        needInRange(value, 0, settingMost(what));
        int previous = live.settings[what];
        live.changeSetting(what, value);
        return previous;
    }

    public void seed(int seed) throws IllegalArgumentException {
        needInRange(seed, 0, X_MODULUS - 1);
        live.x = seed;
    }

    public boolean setFlag(int flag, boolean isOn) throws IndexOutOfBoundsException {
        needIndex(flag, FLAGS);
        boolean wasOn = live.isFlagOn(flag);
        live.turnFlag(flag, isOn);
        return wasOn;
    }

    // ---- what there is

    public int count(int what) throws IllegalArgumentException {
        needInRange(what, 0, COUNT_LAST);
        return live.number(what);
    }

    public int thread(int thread, int what) throws IndexOutOfBoundsException, IllegalArgumentException {
        needThread(thread);
        needInRange(what, 0, FACT_LAST);
        if (what == FACT_HELD_LOCKS) {
            return live.locks.heldBy(thread);
        }
        live.refreshPriorities();
        return live.threads[thread].number(what);
    }

    public int instruction(int thread, int index, int what) throws IndexOutOfBoundsException, IllegalArgumentException {
        needThread(thread);
        Strand strand = live.threads[thread];
        needIndex(index, strand.length);
        needInRange(what, 0, 1);
        return what == 0 ? strand.codes[index] : strand.numbers[index];
    }

    public int lock(int lock, int index) throws IndexOutOfBoundsException {
        needIndex(lock, LOCKS);
        needNotNegative(index);
        return index == 0 ? live.locks.holders[lock] : live.locks.waiter(lock, index - 1);
    }

    public boolean flag(int flag) throws IndexOutOfBoundsException {
        needIndex(flag, FLAGS);
        return live.isFlagOn(flag);
    }

    public int event(int event, int what) throws IndexOutOfBoundsException, IllegalArgumentException {
        needIndex(event, live.log.kept);
        needInRange(what, 0, Log.WIDTH - 1);
        return live.log.cell(event, what);
    }

    public int events(int kind, int thread) throws IndexOutOfBoundsException, IllegalArgumentException {
        if (thread != NONE) {
            needThread(thread);
        }
        needInRange(kind, 0, EVENT_KINDS - 1);
        return live.log.countOf(kind, thread);
    }

    // ---- acts from outside

    public int wake(int thread) throws IndexOutOfBoundsException {
        needThread(thread);
        int answer = live.wakeUp(thread, NONE);
        live.settle();
        return answer;
    }

    public int interrupt(int thread) throws IndexOutOfBoundsException {
        needThread(thread);
        int answer = live.disturb(thread);
        live.settle();
        return answer;
    }

    public boolean rouse(int thread) throws IndexOutOfBoundsException {
        needThread(thread);
        if (live.threads[thread].state != PARKED) {
            return false;
        }
        live.comeBack(thread, WITHOUT_CAUSE);
        live.settle();
        return true;
    }

    // ---- time

    public int run(int ticks) throws IllegalArgumentException {
        needInRange(ticks, 1, TICKS_MOST);
        int doneBefore = live.threadsIn(DONE);
        for (int i = 0; i < ticks; i++) {
            live.tick();
        }
        return live.threadsIn(DONE) - doneBefore;
    }

    public int next() {
        trial.copyFrom(live);
        return trial.tick();
    }

    // ---- what follows

    public int chain(int thread, int index) throws IndexOutOfBoundsException {
        needThread(thread);
        needNotNegative(index);
        return live.blockerInChain(thread, index);
    }

    public int stuck() {
        int stuck = 0;
        for (int i = 0; i < live.threadCount; i++) {
            if (live.isStuck(i)) {
                stuck |= 1 << i;
            }
        }
        return stuck;
    }

    public float lent(int thread) throws IndexOutOfBoundsException {
        needThread(thread);
        live.refreshPriorities();
        Strand strand = live.threads[thread];
        return (float) strand.priority / (float) strand.base;
    }

    public double busy() {
        if (live.time == 0) {
            return 0.0;
        }
        return (double) (live.time - live.idleTicks) / (double) live.time;
    }

    // ---- predictions (with the draws that would come, if only time passes; nothing changes)

    public int doneIn(int thread, int most) throws IndexOutOfBoundsException, IllegalArgumentException {
        needThread(thread);
        needInRange(most, 1, TICKS_MOST);
        trial.copyFrom(live);
        Strand strand = trial.threads[thread];
        for (int ticks = 0; ticks <= most; ticks++) {
            if (strand.state == DONE) {
                return ticks;
            }
            trial.tick();
        }
        return NONE;
    }

    public int returnsIn(int thread, int most) throws IndexOutOfBoundsException, IllegalArgumentException {
        needThread(thread);
        needInRange(most, 1, TICKS_MOST);
        trial.copyFrom(live);
        Strand strand = trial.threads[thread];
        int returnsBefore = strand.allReturns();
        for (int ticks = 1; ticks <= most; ticks++) {
            trial.tick();
            if (strand.allReturns() != returnsBefore) {
                return ticks;
            }
        }
        return NONE;
    }

    public int ahead(int ticks, int what) throws IllegalArgumentException {
        needInRange(ticks, 1, TICKS_MOST);
        needInRange(what, 0, 3);
        trial.copyFrom(live);
        for (int i = 0; i < ticks; i++) {
            trial.tick();
        }
        switch (what) {
            case 0:
                return trial.threadsIn(DONE);
            case 1:
                return trial.idleTicks - live.idleTicks;
            case 2:
                return trial.allReturns() - live.allReturns();
            default:
                return trial.log.total - live.log.total;
        }
    }

    public int bestBase(int thread, int most) throws IndexOutOfBoundsException, IllegalArgumentException {
        needThread(thread);
        needInRange(most, 1, COMPARED_TICKS_MOST);
        Strand strand = trial.threads[thread];
        int best = NONE;
        int fewest = most + 1;
        for (int base = 1; base <= BASE_MOST; base++) {
            trial.copyFrom(live);
            trial.changeBase(thread, base);
            int ticks = 0;
            while (ticks < fewest && strand.state != DONE) {
                trial.tick();
                ticks++;
            }
            if (ticks < fewest) {
                fewest = ticks;
                best = base;
            }
        }
        return best;
    }

    // ---- saved states

    public void save(int slot) throws IllegalArgumentException {
        needInRange(slot, 0, SLOTS - 1);
        saved[slot].copyFrom(live);
        isSaved[slot] = true;
    }

    public void restore(int slot) throws IllegalArgumentException, IllegalStateException {
        needInRange(slot, 0, SLOTS - 1);
        if (!isSaved[slot]) {
            throw new IllegalStateException("nothing is saved there");
        }
        live.copyFrom(saved[slot]);
    }

    // ---- what calls need

    private void needThread(int thread) {
        needIndex(thread, live.threadCount);
    }

    private static void needIndex(int index, int size) {
        if (index < 0 || index >= size) {
            throw new IndexOutOfBoundsException("there is no such thing");
        }
    }

    private static void needNotNegative(int index) {
        if (index < 0) {
            throw new IndexOutOfBoundsException("an index is negative");
        }
    }

    private static void needInRange(int value, int least, int most) {
        if (value < least || value > most) {
            throw new IllegalArgumentException("a value is out of range");
        }
    }

    private static void needInstruction(int code, int number) {
        needInRange(code, 0, OPS.length - 1);
        needInRange(number, OPS[code].least, OPS[code].most);
    }

    private static int settingMost(int what) {
        return what == SPURIOUS ? SPURIOUS_MOST : 1;
    }

    /** The instructions, in the order of their codes. */
    private enum Op {
        RUN("run", 1, 20),
        PARK("park", 0, 0),
        NAP("nap", 1, 200),
        AWAIT("await", 0, FLAGS - 1),
        SET("set", 0, FLAGS - 1),
        CLEAR("clear", 0, FLAGS - 1),
        WAKE("wake", 0, THREADS_MOST - 1),
        TELL("tell", 0, THREADS_MOST - 1),
        STEAL("steal", 0, THREADS_MOST - 1),
        LOCK("lock", 0, LOCKS - 1),
        UNLOCK("unlock", 0, LOCKS - 1);

        final String word;
        final int least;
        final int most;

        Op(String word, int least, int most) {
            this.word = word;
            this.least = least;
            this.most = most;
        }
    }

    /** A thread with its program. */
    private static final class Strand {
        final int[] codes = new int[PROGRAM_MOST];
        final int[] numbers = new int[PROGRAM_MOST];
        final int[] returns = new int[CAUSES];
        int length;
        int base;
        /** Stands only behind Machine.refreshPriorities(). */
        int priority;
        /** 0 before the first tick of the thread. */
        int greatest;
        int state;
        int place;
        /** The ticks that a run instruction has had. */
        int worked;
        boolean hasPermit;
        boolean hasInterrupt;
        int cause;
        int deadline;
        int blockedAt;
        int ticksRun;
        int lastRun;
        int parks;

        void start(int base) {
            for (int i = 0; i < CAUSES; i++) {
                returns[i] = 0;
            }
            length = 0;
            this.base = base;
            priority = base;
            greatest = 0;
            state = READY;
            place = 0;
            worked = 0;
            hasPermit = false;
            hasInterrupt = false;
            cause = NO_CAUSE_YET;
            deadline = NONE;
            blockedAt = NONE;
            ticksRun = 0;
            lastRun = NONE;
            parks = 0;
        }

        void copyFrom(Strand other) {
            System.arraycopy(other.codes, 0, codes, 0, PROGRAM_MOST);
            System.arraycopy(other.numbers, 0, numbers, 0, PROGRAM_MOST);
            System.arraycopy(other.returns, 0, returns, 0, CAUSES);
            length = other.length;
            base = other.base;
            priority = other.priority;
            greatest = other.greatest;
            state = other.state;
            place = other.place;
            worked = other.worked;
            hasPermit = other.hasPermit;
            hasInterrupt = other.hasInterrupt;
            cause = other.cause;
            deadline = other.deadline;
            blockedAt = other.blockedAt;
            ticksRun = other.ticksRun;
            lastRun = other.lastRun;
            parks = other.parks;
        }

        void addStep(int code, int number) {
            if (length < PROGRAM_MOST) {
                codes[length] = code;
                numbers[length] = number;
                length++;
            }
        }

        boolean isOver() {
            return state == DONE || state == FAULTY;
        }

        int allReturns() {
            return returns[BY_WAKEUP] + returns[BY_TIMEOUT] + returns[WITHOUT_CAUSE] + returns[BY_INTERRUPT];
        }

        /** What thread(.., what) tells, but for the locks that are held. */
        int number(int what) {
            switch (what) {
                case 0: return base;
                case 1: return priority;
                case 2: return state;
                case 3: return place;
                case 4: return hasPermit ? 1 : 0;
                case 5: return hasInterrupt ? 1 : 0;
                case 6: return cause;
                case 7: return deadline;
                case 8: return blockedAt;
                case 10: return ticksRun;
                case 11: return lastRun;
                case 12: return parks;
                case 13: return returns[BY_WAKEUP];
                case 14: return returns[BY_TIMEOUT];
                case 15: return returns[WITHOUT_CAUSE];
                case 16: return returns[BY_INTERRUPT];
                case 17: return greatest == 0 ? base : greatest;
                default: return length;
            }
        }
    }

    /** Who holds the locks, and who is blocked at them, in the order in which they were blocked. */
    private static final class Locks {
        final int[] holders = new int[LOCKS];
        private final int[] waiters = new int[LOCKS * THREADS_MOST];
        private final int[] waiting = new int[LOCKS];

        void clear() {
            for (int i = 0; i < LOCKS; i++) {
                holders[i] = NONE;
                waiting[i] = 0;
            }
        }

        void copyFrom(Locks other) {
            System.arraycopy(other.holders, 0, holders, 0, LOCKS);
            System.arraycopy(other.waiters, 0, waiters, 0, LOCKS * THREADS_MOST);
            System.arraycopy(other.waiting, 0, waiting, 0, LOCKS);
        }

        int heldOnes() {
            int held = 0;
            for (int i = 0; i < LOCKS; i++) {
                if (holders[i] != NONE) {
                    held |= 1 << i;
                }
            }
            return held;
        }

        int heldBy(int thread) {
            int held = 0;
            for (int i = 0; i < LOCKS; i++) {
                if (holders[i] == thread) {
                    held |= 1 << i;
                }
            }
            return held;
        }

        int lowestHeldBy(int thread) {
            for (int i = 0; i < LOCKS; i++) {
                if (holders[i] == thread) {
                    return i;
                }
            }
            return NONE;
        }

        int waiter(int lock, int index) {
            return index < waiting[lock] ? waiters[lock * THREADS_MOST + index] : NONE;
        }

        void addWaiter(int lock, int thread) {
            if (waiting[lock] < THREADS_MOST) {
                waiters[lock * THREADS_MOST + waiting[lock]] = thread;
                waiting[lock]++;
            }
        }

        void removeWaiter(int lock, int thread) {
            int first = lock * THREADS_MOST;
            int kept = 0;
            for (int i = 0; i < waiting[lock]; i++) {
                int waiter = waiters[first + i];
                if (waiter != thread) {
                    waiters[first + kept] = waiter;
                    kept++;
                }
            }
            waiting[lock] = kept;
        }
    }

    /** The latest events, in a ring of rows; earlier ones are only counted. */
    private static final class Log {
        static final int WIDTH = 4;
        private static final int MOST = 40;
        private static final int KIND = 1;
        private static final int THREAD = 2;

        private final int[] cells = new int[MOST * WIDTH];
        /** The row of the next event. No row is reckoned from the total, so that no total is too great. */
        private int nextRow;
        int kept;
        int total;

        void clear() {
            nextRow = 0;
            kept = 0;
            total = 0;
        }

        void copyFrom(Log other) {
            System.arraycopy(other.cells, 0, cells, 0, MOST * WIDTH);
            nextRow = other.nextRow;
            kept = other.kept;
            total = other.total;
        }

        void add(int time, int kind, int thread, int number) {
            int first = nextRow * WIDTH;
            cells[first] = time;
            cells[first + 1] = kind;
            cells[first + 2] = thread;
            cells[first + 3] = number;
            nextRow = (nextRow + 1) % MOST;
            if (kept < MOST) {
                kept++;
            }
            total++;
        }

        /** Only for an event that is kept: 0 is the earliest one. */
        int cell(int event, int what) {
            return cells[(nextRow + MOST - kept + event) % MOST * WIDTH + what];
        }

        int countOf(int kind, int thread) {
            int found = 0;
            for (int i = 0; i < kept; i++) {
                if (cell(i, KIND) == kind && (thread == NONE || cell(i, THREAD) == thread)) {
                    found++;
                }
            }
            return found;
        }
    }

    /** All that is saved and predicted: the threads, the locks, the flags, the settings, the time and the log. */
    private static final class Machine {
        /** Far above the threads that can end at once and the locks that they can give up. */
        private static final int STEPS_MOST = 1000;

        final Strand[] threads = new Strand[THREADS_MOST];
        final Locks locks = new Locks();
        final Log log = new Log();
        final int[] settings = new int[SETTINGS];
        int threadCount;
        int time;
        int x;
        int idleTicks;
        private int flags;
        private int merged;
        private int wasted;
        private int stolen;
        private int toldOn;
        private boolean arePrioritiesOld;
        /** The threads that are about to end; one that ends by what another gives up stands above it. */
        private final int[] ending = new int[THREADS_MOST];
        private int endingCount;

        Machine() {
            for (int i = 0; i < THREADS_MOST; i++) {
                threads[i] = new Strand();
            }
            clear();
        }

        void clear() {
            locks.clear();
            log.clear();
            settings[SPURIOUS] = 0;
            settings[LENDING] = 1;
            threadCount = 0;
            time = 0;
            x = X_FIRST;
            idleTicks = 0;
            flags = 0;
            merged = 0;
            wasted = 0;
            stolen = 0;
            toldOn = 0;
            arePrioritiesOld = true;
            endingCount = 0;
        }

        void copyFrom(Machine other) {
            for (int i = 0; i < other.threadCount; i++) {
                threads[i].copyFrom(other.threads[i]);
            }
            locks.copyFrom(other.locks);
            log.copyFrom(other.log);
            System.arraycopy(other.settings, 0, settings, 0, SETTINGS);
            threadCount = other.threadCount;
            time = other.time;
            x = other.x;
            idleTicks = other.idleTicks;
            flags = other.flags;
            merged = other.merged;
            wasted = other.wasted;
            stolen = other.stolen;
            toldOn = other.toldOn;
            arePrioritiesOld = true;
            endingCount = 0;
        }

        boolean isFull() {
            return threadCount >= THREADS_MOST;
        }

        /** Only for a machine that is not full; the caller adds the first instruction. */
        Strand newThread(int base) {
            Strand strand = threads[threadCount];
            strand.start(base);
            threadCount++;
            arePrioritiesOld = true;
            return strand;
        }

        void changeBase(int thread, int base) {
            threads[thread].base = base;
            arePrioritiesOld = true;
        }

        void changeSetting(int what, int value) {
            settings[what] = value;
            arePrioritiesOld = true;
        }

        boolean isFlagOn(int flag) {
            return (flags >> flag & 1) == 1;
        }

        void turnFlag(int flag, boolean isOn) {
            if (isOn) {
                flags |= 1 << flag;
            } else {
                flags &= ~(1 << flag);
            }
        }

        int threadsIn(int state) {
            int found = 0;
            for (int i = 0; i < threadCount; i++) {
                if (threads[i].state == state) {
                    found++;
                }
            }
            return found;
        }

        int allReturns() {
            int returns = 0;
            for (int i = 0; i < threadCount; i++) {
                returns += threads[i].allReturns();
            }
            return returns;
        }

        /** What count(what) tells. */
        int number(int what) {
            switch (what) {
                case 0: return settings[SPURIOUS];
                case 1: return settings[LENDING];
                case 2: return threadCount;
                case 3: return time;
                case 4: return x;
                case 5: return threadsIn(READY);
                case 6: return threadsIn(PARKED);
                case 7: return threadsIn(BLOCKED);
                case 8: return threadsIn(DONE);
                case 9: return threadsIn(FAULTY);
                case 10: return flags;
                case 11: return locks.heldOnes();
                case 12: return idleTicks;
                case 13: return log.kept;
                case 14: return merged;
                case 15: return wasted;
                case 16: return stolen;
                default: return toldOn;
            }
        }

        /** The holder of the lock at which a thread is blocked. */
        private int blockerOf(int thread) {
            int lock = threads[thread].blockedAt;
            return lock == NONE ? NONE : locks.holders[lock];
        }

        /** What chain(..) answers. */
        int blockerInChain(int thread, int index) {
            int told = 1 << thread;
            int next = blockerOf(thread);
            for (int i = 0; i < THREADS_MOST && next != NONE && (told >> next & 1) == 0; i++) {
                if (i == index) {
                    return next;
                }
                told |= 1 << next;
                next = blockerOf(next);
            }
            return NONE;
        }

        boolean isStuck(int thread) {
            int last = thread;
            for (int i = 0; i < THREADS_MOST; i++) {
                int next = blockerOf(last);
                if (next == NONE) {
                    return threads[last].isOver();
                }
                last = next;
            }
            // So many waits in a row are a ring.
            return true;
        }

        void refreshPriorities() {
            if (!arePrioritiesOld) {
                return;
            }
            for (int i = 0; i < threadCount; i++) {
                threads[i].priority = threads[i].base;
            }
            if (settings[LENDING] == 1) {
                for (int i = 0; i < threadCount; i++) {
                    int holder = blockerOf(i);
                    // A chain of waits has no more threads than there are, and a ring comes round in so many steps.
                    for (int k = 0; k < THREADS_MOST && holder != NONE; k++) {
                        threads[holder].priority = Math.max(threads[holder].priority, threads[i].base);
                        holder = blockerOf(holder);
                    }
                }
            }
            arePrioritiesOld = false;
        }

        /** Lets one tick pass; returns the thread that ran in it, or NONE. */
        int tick() {
            noteGreatestPriorities();
            int late = firstLate();
            for (int i = 0; i < THREADS_MOST && late != NONE; i++) {
                comeBack(late, BY_TIMEOUT);
                settle();
                late = firstLate();
            }
            if (settings[SPURIOUS] > 0) {
                for (int i = 0; i < threadCount; i++) {
                    if (threads[i].state == PARKED && drawOfThousand() < settings[SPURIOUS]) {
                        comeBack(i, WITHOUT_CAUSE);
                        settle();
                    }
                }
            }
            int runner = firstReady();
            if (runner == NONE) {
                idleTicks++;
            } else {
                boolean goesOn = perform(runner);
                settle();
                if (goesOn) {
                    advance(runner);
                    settle();
                }
            }
            time++;
            return runner;
        }

        private void noteGreatestPriorities() {
            refreshPriorities();
            for (int i = 0; i < threadCount; i++) {
                Strand strand = threads[i];
                strand.greatest = Math.max(strand.greatest, strand.priority);
            }
        }

        private int firstLate() {
            int first = NONE;
            int earliest = time + 1;
            for (int i = 0; i < threadCount; i++) {
                Strand strand = threads[i];
                if (strand.state == PARKED && strand.deadline != NONE && strand.deadline < earliest) {
                    first = i;
                    earliest = strand.deadline;
                }
            }
            return first;
        }

        /** The product stays far below the greatest int, as x is less than the modulus. */
        private int drawOfThousand() {
            x = (X_FACTOR * x + X_STEP) % X_MODULUS;
            return x % 1000;
        }

        private int firstReady() {
            refreshPriorities();
            int first = NONE;
            for (int i = 0; i < threadCount; i++) {
                if (threads[i].state == READY && (first == NONE || isAheadOf(threads[i], threads[first]))) {
                    first = i;
                }
            }
            return first;
        }

        /** One that never ran has NONE as its latest run, which is less than all times. */
        private static boolean isAheadOf(Strand one, Strand other) {
            if (one.priority != other.priority) {
                return one.priority > other.priority;
            }
            return one.lastRun < other.lastRun;
        }

        /** Does one tick of a thread's instruction; returns whether the place is 1 greater then. */
        private boolean perform(int thread) {
            Strand strand = threads[thread];
            strand.ticksRun++;
            strand.lastRun = time;
            if (strand.place >= strand.length) {
                return false;
            }
            int number = strand.numbers[strand.place];
            switch (OPS[strand.codes[strand.place]]) {
                case RUN:
                    strand.worked++;
                    return strand.worked >= number;
                case PARK:
                    park(thread, NONE);
                    return true;
                case NAP:
                    park(thread, time + number);
                    return true;
                case AWAIT:
                    if (isFlagOn(number)) {
                        return true;
                    }
                    park(thread, NONE);
                    return false;
                case SET:
                    turnFlag(number, true);
                    return true;
                case CLEAR:
                    turnFlag(number, false);
                    return true;
                case WAKE:
                    if (number < threadCount) {
                        wakeUp(number, thread);
                    }
                    return true;
                case TELL:
                    tellOn(thread, number);
                    return true;
                case STEAL:
                    stealPermit(thread, number);
                    return true;
                case LOCK:
                    return takeLock(thread, number);
                default:
                    return unlock(thread, number);
            }
        }

        private void park(int thread, int deadline) {
            Strand strand = threads[thread];
            if (strand.hasInterrupt) {
                strand.hasInterrupt = false;
                strand.cause = BY_INTERRUPT;
            } else if (strand.hasPermit) {
                strand.hasPermit = false;
                strand.cause = BY_WAKEUP;
            } else {
                strand.state = PARKED;
                strand.deadline = deadline;
                strand.parks++;
                log.add(time, EVENT_PARKED, thread, deadline);
            }
        }

        /** Lets a parked thread return; settle() must follow. */
        void comeBack(int thread, int cause) {
            Strand strand = threads[thread];
            strand.state = READY;
            strand.deadline = NONE;
            strand.cause = cause;
            strand.returns[cause]++;
            log.add(time, EVENT_RETURNED, thread, cause);
            endIfThrough(thread);
        }

        /** A wakeup, by a thread or NONE; returns what wake(..) answers. settle() must follow. */
        int wakeUp(int thread, int by) {
            Strand strand = threads[thread];
            if (strand.state == PARKED) {
                comeBack(thread, BY_WAKEUP);
                return 0;
            }
            if (strand.isOver()) {
                wasted++;
                return 3;
            }
            if (strand.hasPermit) {
                merged++;
                log.add(time, EVENT_MERGED, thread, by);
                return 2;
            }
            strand.hasPermit = true;
            return 1;
        }

        /** An interrupt; returns what interrupt(..) answers. settle() must follow. */
        int disturb(int thread) {
            Strand strand = threads[thread];
            if (strand.state == PARKED) {
                comeBack(thread, BY_INTERRUPT);
                return 0;
            }
            if (strand.isOver()) {
                return 3;
            }
            if (strand.hasInterrupt) {
                return 2;
            }
            strand.hasInterrupt = true;
            return 1;
        }

        private void tellOn(int thread, int other) {
            if (threads[thread].cause != BY_WAKEUP) {
                return;
            }
            threads[thread].cause = NO_CAUSE_YET;
            if (other < threadCount) {
                toldOn++;
                log.add(time, EVENT_TOLD_ON, thread, other);
                wakeUp(other, thread);
            }
        }

        private void stealPermit(int thread, int other) {
            if (other >= threadCount || other == thread || !threads[other].hasPermit) {
                return;
            }
            threads[other].hasPermit = false;
            threads[thread].hasPermit = true;
            stolen++;
            log.add(time, EVENT_STOLEN, thread, other);
        }

        private boolean takeLock(int thread, int lock) {
            Strand strand = threads[thread];
            if (locks.holders[lock] == NONE) {
                locks.holders[lock] = thread;
                log.add(time, EVENT_GOT_LOCK, thread, lock);
                return true;
            }
            if (locks.holders[lock] == thread) {
                fail(thread);
                return false;
            }
            strand.state = BLOCKED;
            strand.blockedAt = lock;
            locks.addWaiter(lock, thread);
            arePrioritiesOld = true;
            log.add(time, EVENT_BLOCKED, thread, lock);
            return false;
        }

        private boolean unlock(int thread, int lock) {
            if (locks.holders[lock] != thread) {
                fail(thread);
                return false;
            }
            giveUp(lock);
            return true;
        }

        private void fail(int thread) {
            threads[thread].state = FAULTY;
            log.add(time, EVENT_FAULTY, thread, threads[thread].place);
        }

        /** Gives up a lock that is held; settle() must follow. */
        private void giveUp(int lock) {
            refreshPriorities();
            int next = firstWaiter(lock);
            log.add(time, EVENT_GAVE_UP_LOCK, locks.holders[lock], lock);
            locks.holders[lock] = next;
            if (next == NONE) {
                return;
            }
            locks.removeWaiter(lock, next);
            threads[next].state = READY;
            threads[next].blockedAt = NONE;
            arePrioritiesOld = true;
            log.add(time, EVENT_GOT_LOCK, next, lock);
            advance(next);
        }

        private int firstWaiter(int lock) {
            int first = locks.waiter(lock, 0);
            for (int i = 1; i < THREADS_MOST; i++) {
                int waiter = locks.waiter(lock, i);
                if (waiter != NONE && first != NONE && threads[waiter].priority > threads[first].priority) {
                    first = waiter;
                }
            }
            return first;
        }

        private void advance(int thread) {
            threads[thread].place++;
            threads[thread].worked = 0;
            endIfThrough(thread);
        }

        private void endIfThrough(int thread) {
            Strand strand = threads[thread];
            if (strand.state == READY && strand.place >= strand.length && endingCount < THREADS_MOST) {
                ending[endingCount] = thread;
                endingCount++;
            }
        }

        /**
         * Lets the threads that are through be done and give up their locks. A thread that gets such a lock and is
         * through by that ends ahead of what the one that gave it up does next.
         */
        void settle() {
            for (int i = 0; i < STEPS_MOST && endingCount > 0; i++) {
                int thread = ending[endingCount - 1];
                int lock = locks.lowestHeldBy(thread);
                if (threads[thread].state != DONE) {
                    threads[thread].state = DONE;
                    log.add(time, EVENT_DONE, thread, 0);
                } else if (lock != NONE) {
                    giveUp(lock);
                } else {
                    endingCount--;
                }
            }
        }
    }

    /** The text buffer, and the parser that reads it as a setup. */
    private static final class SetupText {
        private static final int END = 0;
        private static final int WORD = 1;
        private static final int NUMBER = 2;
        private static final int STRANGE = 3;

        private static final int NOT_ALLOWED = 1;
        private static final int OUT_OF_RANGE = 2;
        private static final int TOO_MANY = 3;
        private static final int ON_ALREADY = 4;

        private final byte[] bytes = new byte[TEXT_MOST];
        int length;
        int errorCode;
        int errorPosition = NONE;
        /** The present token: its kind (a symbol's is its byte), its value, its first byte, the byte behind it. */
        private int kind;
        private int value;
        private int first;
        private int behind;

        void append(int fourBytes) {
            for (int shift = 24; shift >= 0; shift -= 8) {
                if (length < TEXT_MOST) {
                    bytes[length] = (byte) (fourBytes >> shift);
                    length++;
                }
            }
        }

        void startReading() {
            errorCode = 0;
            errorPosition = NONE;
            behind = 0;
            readToken();
        }

        boolean hasStatement() {
            return errorCode == 0 && kind != END;
        }

        /** Reads the next statement into a machine; a wrong one is told by errorCode and may be half read. */
        void readStatement(Machine machine) {
            boolean isRight;
            if (isWord("thread")) {
                isRight = readThread(machine);
            } else if (isWord("flag")) {
                isRight = readFlag(machine);
            } else if (isWord("set")) {
                isRight = readSetting(machine);
            } else if (isWord("seed")) {
                isRight = readSeed(machine);
            } else {
                isRight = refuse(NOT_ALLOWED);
            }
            if (isRight) {
                readSymbol(';');
            }
        }

        private boolean readThread(Machine machine) {
            if (machine.isFull()) {
                return refuse(TOO_MANY);
            }
            readToken();
            int base = value;
            if (!readNumber(1, BASE_MOST) || !readSymbol(':')) {
                return false;
            }
            Strand strand = machine.newThread(base);
            boolean isRight = readInstruction(strand);
            for (int i = 0; i <= PROGRAM_MOST && isRight && kind == ','; i++) {
                readToken();
                isRight = readInstruction(strand);
            }
            return isRight;
        }

        private boolean readInstruction(Strand strand) {
            int code = instructionCode();
            if (code == NONE) {
                return refuse(NOT_ALLOWED);
            }
            if (strand.length >= PROGRAM_MOST) {
                return refuse(TOO_MANY);
            }
            readToken();
            int number = 0;
            if (OPS[code] != Op.PARK) {
                number = value;
                if (!readNumber(OPS[code].least, OPS[code].most)) {
                    return false;
                }
            }
            strand.addStep(code, number);
            return true;
        }

        private boolean readFlag(Machine machine) {
            readToken();
            int flag = value;
            if (!needNumber(0, FLAGS - 1)) {
                return false;
            }
            if (machine.isFlagOn(flag)) {
                return refuse(ON_ALREADY);
            }
            machine.turnFlag(flag, true);
            readToken();
            return true;
        }

        private boolean readSetting(Machine machine) {
            readToken();
            int what = value;
            if (!readNumber(0, SETTINGS - 1)) {
                return false;
            }
            int setting = value;
            if (!readNumber(0, settingMost(what))) {
                return false;
            }
            machine.changeSetting(what, setting);
            return true;
        }

        private boolean readSeed(Machine machine) {
            readToken();
            int seed = value;
            if (!readNumber(0, X_MODULUS - 1)) {
                return false;
            }
            machine.x = seed;
            return true;
        }

        private boolean readNumber(int least, int most) {
            if (!needNumber(least, most)) {
                return false;
            }
            readToken();
            return true;
        }

        private boolean needNumber(int least, int most) {
            if (kind != NUMBER) {
                return refuse(NOT_ALLOWED);
            }
            return value >= least && value <= most || refuse(OUT_OF_RANGE);
        }

        private boolean readSymbol(char symbol) {
            if (kind != symbol) {
                return refuse(NOT_ALLOWED);
            }
            readToken();
            return true;
        }

        /** Tells the error at the present token; always false. */
        private boolean refuse(int code) {
            errorCode = code;
            errorPosition = first;
            return false;
        }

        private boolean isWord(String word) {
            if (kind != WORD || behind - first != word.length()) {
                return false;
            }
            for (int i = 0; i < word.length(); i++) {
                if (bytes[first + i] != word.charAt(i)) {
                    return false;
                }
            }
            return true;
        }

        private int instructionCode() {
            for (int i = 0; i < OPS.length; i++) {
                if (isWord(OPS[i].word)) {
                    return i;
                }
            }
            return NONE;
        }

        private void readToken() {
            while (behind < length && (bytes[behind] == ' ' || bytes[behind] == '\n')) {
                behind++;
            }
            first = behind;
            if (behind >= length) {
                kind = END;
                return;
            }
            kind = kindOf(bytes[behind]);
            behind++;
            boolean isRun = kind == WORD || kind == NUMBER;
            while (isRun && behind < length && kindOf(bytes[behind]) == kind) {
                behind++;
            }
            value = kind == NUMBER ? valueOfToken() : 0;
        }

        private static int kindOf(byte sign) {
            if (sign >= 'a' && sign <= 'z') {
                return WORD;
            }
            if (sign >= '0' && sign <= '9') {
                return NUMBER;
            }
            return sign == ';' || sign == ',' || sign == ':' ? sign : STRANGE;
        }

        /** A number that is too great for every range need not grow, however many digits follow. */
        private int valueOfToken() {
            int read = 0;
            for (int i = first; i < behind && read < X_MODULUS; i++) {
                read = read * 10 + bytes[i] - '0';
            }
            return read;
        }
    }
}
