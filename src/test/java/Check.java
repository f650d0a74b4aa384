import java.nio.charset.StandardCharsets;
import java.util.ArrayList;
import java.util.List;
import java.util.NoSuchElementException;

/** What the tests share: answers that are due, exceptions that are due, texts put on the tape. */
final class Check {
    interface Call {
        long answer();
    }

    private static final List<Class<? extends RuntimeException>> REASONS =
            List.of(NoSuchElementException.class, IllegalArgumentException.class, IllegalStateException.class);

    private final String name;
    private int asked;
    private int wrong;

    Check(String name) {
        this.name = name;
    }

    void due(String call, long got, long want) {
        asked++;
        if (got != want) {
            wrong++;
            System.out.println(name + ": " + call + " answered " + got + ", due is " + want);
        }
    }

    void missing(String call, Call made) {
        throwing(call, made, NoSuchElementException.class);
    }

    void unfit(String call, Call made) {
        throwing(call, made, IllegalArgumentException.class);
    }

    void untimely(String call, Call made) {
        throwing(call, made, IllegalStateException.class);
    }

    private void throwing(String call, Call made, Class<? extends RuntimeException> due) {
        asked++;
        String got;
        try {
            got = "answered " + made.answer();
        } catch (RuntimeException e) {
            if (e.getClass() == due) {
                return;
            }
            got = "threw " + e.getClass().getSimpleName();
        }
        wrong++;
        System.out.println(name + ": " + call + " " + got + ", due is " + due.getSimpleName());
    }

    /** The call throws, counts as refused by that reason and by no other, and changes nothing else. */
    void refused(FailDesk desk, int reason, String call, Call made) {
        List<Long> before = all(desk);
        int[] counted = {desk.status(0), desk.status(1), desk.status(2)};
        throwing(call, made, REASONS.get(reason));
        for (int i = 0; i < 3; i++) {
            due("status(" + i + ") behind " + call + " refused", desk.status(i), counted[i] + (i == reason ? 1 : 0));
        }
        same(call + " refused", desk, before);
    }

    /** The call answers so, and nothing stays changed. */
    void asked(FailDesk desk, String call, Call made, long want) {
        List<Long> before = all(desk);
        due(call, made.answer(), want);
        same(call + " asked", desk, before);
    }

    void same(String when, FailDesk desk, List<Long> before) {
        asked++;
        List<Long> now = all(desk);
        if (!now.equals(before)) {
            wrong++;
            System.out.println(name + ": behind " + when + " there is " + now + ", ahead of it there was " + before);
        }
    }

    /** Every answer of the object that it gives without a refusal, but for status(). */
    static List<Long> all(FailDesk desk) {
        List<Long> all = new ArrayList<>();
        int[] numbers = {desk.told(0), desk.told(1)};
        for (int i = 0; i <= 10; i++) {
            all.add((long) desk.told(i));
        }
        for (int i = 0; i <= 9; i++) {
            all.add((long) desk.ring(i));
        }
        for (int d = 0; d < numbers[0]; d++) {
            for (int i = 0; i <= 8; i++) {
                all.add(desk.dealer(d, i));
            }
            for (int other = 0; other < numbers[0]; other++) {
                all.add((long) desk.between(d, other));
            }
        }
        for (int s = 0; s < numbers[1]; s++) {
            addSale(desk, s, all);
        }
        all.addAll(List.of(desk.most(0), desk.most(1), (long) desk.foretold(1), (long) desk.foretold(30),
                desk.without(-1), desk.mean(), desk.outside(), desk.print(), (long) desk.fault()));
        return all;
    }

    private static void addSale(FailDesk desk, int sale, List<Long> all) {
        for (int i = 0; i <= 10; i++) {
            all.add((long) desk.of(sale, i));
        }
        int parts = desk.parts(sale);
        all.addAll(List.of(desk.rule(sale), desk.without(sale), (long) parts));
        for (int i = 0; i < parts; i++) {
            all.add((long) desk.part(sale, i, 0));
            all.add((long) desk.part(sale, i, 1));
        }
        if (desk.of(sale, 10) == 1) {
            all.add((long) desk.chain(sale, 0));
        }
    }

    void end() {
        System.out.println(name + ": " + asked + " answers, " + wrong + " not as due");
        if (wrong != 0 || asked == 0) {
            System.exit(1);
        }
    }

    /** Puts a text on an empty tape, filled up by bytes 0, and tells it. */
    static int tell(FailDesk desk, String text) {
        byte[] bytes = text.getBytes(StandardCharsets.ISO_8859_1);
        feed(desk, bytes);
        return desk.text(bytes.length);
    }

    static FailDesk told(String text) {
        FailDesk desk = new FailDesk();
        int sales = tell(desk, text);
        if (sales < 0) {
            throw new AssertionError("a text of a test has a fault: " + text);
        }
        return desk;
    }

    static void feed(FailDesk desk, byte[] bytes) {
        for (int i = 0; i < bytes.length; i += 20) {
            desk.feed(four(bytes, i), four(bytes, i + 4), four(bytes, i + 8), four(bytes, i + 12), four(bytes, i + 16));
        }
    }

    static int four(byte[] bytes, int from) {
        int number = 0;
        for (int i = from; i < from + 4; i++) {
            number = number << 8 | (i < bytes.length ? bytes[i] & 255 : 0);
        }
        return number;
    }
}
