/** What the tests of boundary cases share: a machine with something of everything, and what a call must leave as it is. */
final class Edges {
    static final Class<? extends RuntimeException> INDEX = IndexOutOfBoundsException.class;
    static final Class<? extends RuntimeException> ARGUMENT = IllegalArgumentException.class;
    static final Class<? extends RuntimeException> STATE = IllegalStateException.class;
    static final int LEAST = Integer.MIN_VALUE;
    static final int MOST = Integer.MAX_VALUE;
    private static final int VIEWS = 5;
    private static final int BLANKS = 0x20202020;

    /** Makes an object, by the same calls each time. */
    interface Maker {
        PermitPark make();
    }

    /** A call whose answer is a number; a boolean counts 1 or 0, a call without an answer 0. */
    interface Act {
        long on(PermitPark park);
    }

    private Edges() {
    }

    /**
     * Four threads (0 blocked, 1 parked, 2 ready with a permit and an interrupt, 3 faulty), flags, settings, a text in
     * the buffer, an error of the latest load(), a state in slot 0 and none in slot 1.
     */
    static PermitPark rich() {
        PermitPark park = Parks.of("thread 5: nap 2, lock 0, run 2; thread 4: lock 0, nap 30, run 1;"
            + "thread 3: run 20, park, run 3; thread 9: unlock 2; flag 2; flag 6; set 0 30; seed 4711;");
        park.run(2);
        park.save(0);
        park.run(6);
        park.wake(2);
        park.wake(2);
        park.interrupt(2);
        Parks.load(park, "flag 3; flag 9;");
        Parks.write(park, "thread 7: park; seed 8; flag ");
        return park;
    }

    /** What can be seen of an object, from one of several sides; it is used up by that. */
    private static String seen(PermitPark park, int view) {
        StringBuilder told = new StringBuilder();
        switch (view) {
            case 0:
                break;
            case 1:
                told.append(park.run(40)).append(' ');
                break;
            case 2:
                told.append(answer(park, one -> one.appendText(BLANKS))).append(' ').append(park.load()).append(' ');
                break;
            default:
                told.append(answer(park, one -> { one.restore(view - 3); return 0; })).append(' ');
                break;
        }
        return told.append(Parks.all(park)).toString();
    }

    private static String answer(PermitPark park, Act act) {
        try {
            return String.valueOf(act.on(park));
        } catch (RuntimeException e) {
            return e.getClass().getName();
        }
    }

    /** A call that answers and changes nothing. */
    static void unchanged(String call, Maker maker, Act act) {
        for (int view = 0; view < VIEWS; view++) {
            PermitPark park = maker.make();
            answer(park, act);
            Check.dueText("behind " + call + " the view " + view, seen(park, view), seen(maker.make(), view));
        }
    }

    /** A call that throws and changes nothing. */
    static void refused(String call, Class<? extends RuntimeException> want, Maker maker, Act act) {
        PermitPark park = maker.make();
        Check.dueThrow(call, want, () -> act.on(park));
        unchanged(call, maker, act);
    }

    /** The same on the machine with something of everything. */
    static void refused(String call, Class<? extends RuntimeException> want, Act act) {
        refused(call, want, Edges::rich, act);
    }
}
