import java.nio.charset.StandardCharsets;

/** Objects for tests, and what can be seen of them. */
final class Parks {
    private Parks() {
    }

    /** A new object with this setup. */
    static PermitPark of(String setup) {
        PermitPark park = new PermitPark();
        Check.due("load() of " + setup, load(park, setup) >= 0, true);
        return park;
    }

    /** Appends a text to the buffer and loads it. */
    static int load(PermitPark park, String setup) {
        write(park, setup);
        return park.load();
    }

    static void write(PermitPark park, String text) {
        write(park, text.getBytes(StandardCharsets.ISO_8859_1));
    }

    static void write(PermitPark park, byte[] bytes) {
        int length = 0;
        for (int i = 0; i < bytes.length; i += 4) {
            int four = 0;
            for (int k = 0; k < 4; k++) {
                four = four << 8 | (i + k < bytes.length ? bytes[i + k] & 255 : 0);
            }
            length = park.appendText(four);
        }
        if (bytes.length % 4 != 0) {
            park.truncateText(length - 4 + bytes.length % 4);
        }
    }

    /** All events of the log: time.kind.thread.number, one behind the other. */
    static String log(PermitPark park) {
        return log(park, 0);
    }

    static String log(PermitPark park, int from) {
        StringBuilder told = new StringBuilder();
        int events = park.count(13);
        for (int i = from; i < events; i++) {
            told.append(i == from ? "" : " ").append(park.event(i, 0)).append('.').append(park.event(i, 1))
                .append('.').append(park.event(i, 2)).append('.').append(park.event(i, 3));
        }
        return told.toString();
    }

    /** One fact of all threads. */
    static String facts(PermitPark park, int what) {
        StringBuilder told = new StringBuilder();
        int threads = park.count(2);
        for (int i = 0; i < threads; i++) {
            told.append(i == 0 ? "" : " ").append(park.thread(i, what));
        }
        return told.toString();
    }

    /** What can be seen of a small machine; few calls, as an object is good for 512. */
    static String all(PermitPark park) {
        StringBuilder told = new StringBuilder();
        int threads = 0;
        for (int what = 0; what <= 17; what++) {
            int count = park.count(what);
            threads = what == 2 ? count : threads;
            told.append(count).append(' ');
        }
        for (int thread = 0; thread < threads; thread++) {
            int length = 0;
            told.append("| ");
            for (int what = 0; what <= 18; what++) {
                length = park.thread(thread, what);
                told.append(length).append(' ');
            }
            for (int index = 0; index < length; index++) {
                told.append(park.instruction(thread, index, 0)).append('/');
                told.append(park.instruction(thread, index, 1)).append(' ');
            }
        }
        told.append("| ");
        for (int lock = 0; lock < 6; lock++) {
            for (int index = 0; index < 3; index++) {
                told.append(park.lock(lock, index)).append(' ');
            }
        }
        told.append("| ").append(log(park)).append(" | ").append(park.errorCode()).append(' ');
        told.append(park.errorPosition()).append(' ').append(park.next()).append(' ').append(park.busy());
        return told.toString();
    }
}
