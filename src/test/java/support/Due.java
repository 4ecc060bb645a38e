import java.nio.charset.StandardCharsets;
import java.util.NoSuchElementException;

/** Counts the answers that are not as due, and feeds texts. */
final class Due {
    static final long THROWS = Long.MIN_VALUE;
    private static final int MINUTES_AT_MOST = 5;

    private final String name;
    private int calls;
    private int wrong;

    Due(String name) {
        this.name = name;
        Thread watch = new Thread(this::endLate);
        watch.setDaemon(true);
        watch.start();
    }

    /** A call that does not end is a fault, too: the test fails instead of going on for ever. */
    private void endLate() {
        try {
            Thread.sleep(MINUTES_AT_MOST * 60000L);
        } catch (InterruptedException e) {
            return;
        }
        System.out.println(name + ": not at its end after " + MINUTES_AT_MOST + " minutes");
        Runtime.getRuntime().halt(1);
    }

    void is(String call, long got, long want) {
        calls++;
        if (got != want) {
            wrong++;
            if (wrong <= 40) {
                System.out.println(name + ": " + call + " answered " + got + ", due is " + want);
            }
        }
    }

    void is(String call, boolean got, boolean want) {
        is(call, got ? 1 : 0, want ? 1 : 0);
    }

    /** What the call person answers, or THROWS. */
    static long person(RememberedWeight x, int person, int what) {
        try {
            return x.person(person, what);
        } catch (NoSuchElementException e) {
            return THROWS;
        }
    }

    void finish() {
        System.out.println(name + ": " + calls + " calls, " + wrong + " not as due");
        if (wrong != 0 || calls == 0) {
            System.exit(1);
        }
    }

    /** Feeds the text, twenty bytes a call; what the last call answered. */
    static int feed(RememberedWeight x, String text) {
        byte[] bytes = text.getBytes(StandardCharsets.ISO_8859_1);
        int answer = 0;
        for (int i = 0; i < bytes.length || i == 0; i += 20) {
            answer = x.feed(four(bytes, i), four(bytes, i + 4), four(bytes, i + 8), four(bytes, i + 12),
                    four(bytes, i + 16));
        }
        return answer;
    }

    static int four(byte[] bytes, int from) {
        int number = 0;
        for (int i = from; i < from + 4; i++) {
            number = number << 8 | (i < bytes.length ? bytes[i] & 255 : 0);
        }
        return number;
    }

    /** An object with this ISLAND. */
    static RememberedWeight island(String text) {
        RememberedWeight x = new RememberedWeight();
        feed(x, text);
        if (x.text(0) < 2) {
            throw new IllegalStateException("no island: " + text);
        }
        return x;
    }

    /** An object with this ISLAND and this LAW, which holds. */
    static RememberedWeight island(String text, String law) {
        RememberedWeight x = new RememberedWeight();
        enact(x, law);
        feed(x, text);
        if (x.text(0) < 2) {
            throw new IllegalStateException("no island: " + text);
        }
        return x;
    }

    /** The LAW is kept and holds. */
    static int enact(RememberedWeight x, String law) {
        feed(x, law);
        int number = x.text(1);
        if (number < 0 || !x.law(number)) {
            throw new IllegalStateException("no law: " + law);
        }
        return number;
    }

    /** The FAULT of a text of the sort. */
    static int fault(String text, int sort) {
        RememberedWeight x = new RememberedWeight();
        feed(x, text);
        return x.fault(sort);
    }
}
