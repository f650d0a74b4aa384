import java.nio.charset.StandardCharsets;
import java.util.NoSuchElementException;

/** What the tests share: answers that are due, exceptions that are due, texts put on the tape. */
final class Check {
    interface Call {
        long answer();
    }

    private final String name;
    private int asked;
    private int wrong;

    Check(String name) {
        this.name = name;
    }

    void due(String call, long got, long want) {
        asked++;
        if (got != want) {
            wrong++;
            System.out.println(name + ": " + call + " answered " + got + ", due is " + want);
        }
    }

    void missing(String call, Call made) {
        throwing(call, made, NoSuchElementException.class);
    }

    void unfit(String call, Call made) {
        throwing(call, made, IllegalArgumentException.class);
    }

    void untimely(String call, Call made) {
        throwing(call, made, IllegalStateException.class);
    }

    private void throwing(String call, Call made, Class<? extends RuntimeException> due) {
        asked++;
        String got;
        try {
            got = "answered " + made.answer();
        } catch (RuntimeException e) {
            if (e.getClass() == due) {
                return;
            }
            got = "threw " + e.getClass().getSimpleName();
        }
        wrong++;
        System.out.println(name + ": " + call + " " + got + ", due is " + due.getSimpleName());
    }

    void end() {
        System.out.println(name + ": " + asked + " answers, " + wrong + " not as due");
        if (wrong != 0 || asked == 0) {
            System.exit(1);
        }
    }

    /** Puts a text on an empty tape, filled up by bytes 0, and tells it. */
    static int tell(FailDesk desk, String text) {
        byte[] bytes = text.getBytes(StandardCharsets.ISO_8859_1);
        feed(desk, bytes);
        return desk.text(bytes.length);
    }

    static FailDesk told(String text) {
        FailDesk desk = new FailDesk();
        int sales = tell(desk, text);
        if (sales < 0) {
            throw new AssertionError("a text of a test has a fault: " + text);
        }
        return desk;
    }

    static void feed(FailDesk desk, byte[] bytes) {
        for (int i = 0; i < bytes.length; i += 20) {
            desk.feed(four(bytes, i), four(bytes, i + 4), four(bytes, i + 8), four(bytes, i + 12), four(bytes, i + 16));
        }
    }

    static int four(byte[] bytes, int from) {
        int number = 0;
        for (int i = from; i < from + 4; i++) {
            number = number << 8 | (i < bytes.length ? bytes[i] & 255 : 0);
        }
        return number;
    }
}
