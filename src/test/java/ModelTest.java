import java.nio.charset.StandardCharsets;
import java.util.NoSuchElementException;
import java.util.Random;

/** Runs of calls, drawn from fixed seeds, on the class and on the plain model: every answer is compared. */
public final class ModelTest {
    private static final int RUNS = 600;
    private static final int CALLS = 300;

    private final Random random;
    private final FailDesk desk = new FailDesk();
    private final Model model = new Model();
    private final StringBuilder log = new StringBuilder();
    private final int size;

    private ModelTest(long seed) {
        random = new Random(seed);
        size = 1 + random.nextInt(3);
    }

    private interface Ask {
        long of();
    }

    private static String answer(Ask ask) {
        try {
            return Long.toString(ask.of());
        } catch (NoSuchElementException | IllegalArgumentException | IllegalStateException e) {
            return e.getClass().getSimpleName();
        }
    }

    private boolean same(String call, Ask asked, Ask due) {
        String got = answer(asked);
        String want = answer(due);
        log.append(call).append(" = ").append(got).append('\n');
        if (!got.equals(want)) {
            System.out.println(log + call + " answered " + got + ", the model says " + want);
        }
        return got.equals(want);
    }

    private int upTo(int n) {
        return random.nextInt(n + 1);
    }

    private int oneOf(int... numbers) {
        return numbers[random.nextInt(numbers.length)];
    }

    private String blanks() {
        return oneOf(0, 0, 0, 0, 1, 2) == 1 ? " " : "";
    }

    private String factor(int depth) {
        int kind = upTo(depth > 3 ? 7 : 10);
        if (kind == 0) {
            return Integer.toString(oneOf(0, 1, 2, 7, 100, 9999));
        }
        if (kind <= 7) {
            return new String[] {"age", "open", "units", "price", "seller", "buyer", "due"}[kind - 1];
        }
        return kind == 8 ? "-" + blanks() + factor(depth + 1) : "(" + sum(depth + 1) + blanks() + ")";
    }

    private String sum(int depth) {
        StringBuilder s = new StringBuilder(factor(depth));
        for (int i = upTo(2); i > 0; i--) {
            s.append(blanks()).append(new String[] {"+", "-", "*"}[upTo(2)]).append(blanks()).append(factor(depth));
        }
        return s.toString();
    }

    private String text() {
        StringBuilder t = new StringBuilder();
        int dealers = 2 + upTo(6);
        for (int i = 0; i < dealers; i++) {
            t.append("dealer ").append(oneOf(0, 0, 0, 1, 5, 30, 200)).append(blanks()).append(';');
        }
        if (upTo(3) > 0) {
            t.append(blanks()).append("rate").append(blanks()).append(oneOf(0, 1, 50, 500, 999)).append(';');
        }
        if (upTo(2) > 0) {
            t.append("lot ").append(oneOf(1, 2, 3, 5, 10, 100)).append(';');
        }
        if (upTo(2) > 0) {
            t.append("buyin ").append(oneOf(0, 1, 2, 3, 30)).append(';');
        }
        if (upTo(2) > 0) {
            t.append("mark ").append(oneOf(1, 50, 100, 150, 10000)).append(';');
        }
        if (upTo(3) > 0) {
            t.append("rule ").append(sum(0)).append(';');
        }
        int sales = upTo(oneOf(3, 8, 20));
        for (int i = 0; i < sales && t.length() < 470; i++) {
            t.append("sale ").append(saleOf(dealers)).append(';');
        }
        return t.length() > 500 ? t.substring(0, 500) : t.toString();
    }

    private String saleOf(int dealers) {
        int seller = random.nextInt(dealers);
        int buyer = (seller + 1 + random.nextInt(dealers - 1)) % dealers;
        return seller + " " + buyer + " " + units() + " " + price() + " " + oneOf(0, 0, 0, 1, 2, 5);
    }

    private int units() {
        return 1 + upTo(size == 1 ? 9 : size == 2 ? 60 : 999);
    }

    private int price() {
        return oneOf(1, 50, 90, 100, 110, 150, 10000, 1 + upTo(300));
    }

    /** Now and then a byte of the text is another one, so that there are faults of all kinds. */
    private byte[] spoilt(String text) {
        StringBuilder t = new StringBuilder(text);
        for (int i = upTo(2); i > 0 && t.length() > 0; i--) {
            int at = random.nextInt(t.length());
            char other = "; 09-+*(()aedlrstx".charAt(random.nextInt(18));
            switch (upTo(4)) {
                case 0:
                    t.setCharAt(at, other);
                    break;
                case 1:
                    t.deleteCharAt(at);
                    break;
                case 2:
                    t.insert(at, other);
                    break;
                case 3:
                    t.setLength(at);
                    break;
                default:
                    t.setCharAt(at, (char) random.nextInt(256));
            }
        }
        if (t.length() > 500) {
            t.setLength(500);
        }
        return t.toString().getBytes(StandardCharsets.ISO_8859_1);
    }

    private boolean tell() {
        byte[] bytes = upTo(3) == 0 ? spoilt(text()) : text().getBytes(StandardCharsets.ISO_8859_1);
        for (int i = 0; i < bytes.length; i += 20) {
            int[] n = new int[5];
            for (int k = 0; k < 5; k++) {
                n[k] = Check.four(bytes, i + 4 * k);
            }
            if (!same("feed", () -> desk.feed(n[0], n[1], n[2], n[3], n[4]), () -> model.feed(n))) {
                return false;
            }
        }
        int n = upTo(20) == 0 ? oneOf(-1, 501, bytes.length / 2, bytes.length + 20) : bytes.length;
        log.append(new String(bytes, StandardCharsets.ISO_8859_1)).append('\n');
        return same("text(" + n + ")", () -> desk.text(n), () -> model.text(n));
    }

    private int dealer() {
        return upTo(15) == 0 ? oneOf(-1, 8, Integer.MIN_VALUE, Integer.MAX_VALUE) : upTo(Math.max(1, model.now.dealers.size() - 1));
    }

    private int sale() {
        return upTo(15) == 0 ? oneOf(-2, -1, 24, Integer.MIN_VALUE, Integer.MAX_VALUE) : upTo(Math.max(1, model.now.sales.size() - 1));
    }

    private boolean act() {
        int a = dealer();
        int b = dealer();
        int s = sale();
        int k = upTo(40);
        if (k == 0) {
            return tell();
        }
        if (k < 12) {
            int units = upTo(20) == 0 ? oneOf(0, 1001, -5) : units();
            int price = upTo(20) == 0 ? oneOf(0, 10001) : price();
            int day = upTo(20) == 0 ? oneOf(-1, 1000) : Math.max(0, model.now.day - 2 + upTo(4));
            return same("sale(" + a + ", " + b + ", " + units + ", " + price + ", " + day + ")",
                    () -> desk.sale(a, b, units, price, day), () -> model.sale(a, b, units, price, day));
        }
        if (k < 16) {
            int units = oneOf(0, 0, 3, 20, 500, 100_000, 100_001, -1);
            return same("stock(" + a + ", " + units + ")", () -> desk.stock(a, units), () -> model.stock(a, units));
        }
        if (k < 19) {
            int price = oneOf(0, 1, 80, 120, 200, 10_000, 10_001);
            return same("mark(" + price + ")", () -> desk.mark(price), () -> model.mark(price));
        }
        if (k < 24) {
            return same("night()", desk::night, model::night);
        }
        if (k < 36) {
            int units = oneOf(-1, 0, 1, 1, 2, 5, 30, 1000, 0) + upTo(3);
            return same("buyin(" + s + ", " + units + ")", () -> desk.buyin(s, units), () -> model.buyin(s, units));
        }
        return same("undo()", desk::undo, model::undo);
    }

    private boolean ask() {
        int a = dealer();
        int b = dealer();
        int s = sale();
        int i = oneOf(-1, 0, 0, 1, 1, 2, 3, 4, 7);
        int what = upTo(11) - (upTo(30) == 0 ? 1 : 0);
        switch (upTo(16)) {
            case 0:
                return same("told(" + what + ")", () -> desk.told(what), () -> model.told(what));
            case 1:
                return same("dealer(" + a + ", " + what + ")", () -> desk.dealer(a, what), () -> model.dealer(a, what));
            case 2:
                return same("of(" + s + ", " + what + ")", () -> desk.of(s, what), () -> model.of(s, what));
            case 3:
                return same("rule(" + s + ")", () -> desk.rule(s), () -> model.rule(s));
            case 4:
                return same("part(" + s + ", " + i + ")", () -> desk.part(s, i, what % 3), () -> model.part(s, i, what % 3));
            case 5:
                return same("parts(" + s + ")", () -> desk.parts(s), () -> model.parts(s));
            case 6:
                return same("chain(" + s + ", " + i + ")", () -> desk.chain(s, i), () -> model.chain(s, i));
            case 7:
                return same("ring(" + what + ")", () -> desk.ring(what), () -> model.ring(what));
            case 8:
                return same("most(" + what % 3 + ")", () -> desk.most(what % 3), () -> model.most(what % 3));
            case 9:
                int n = oneOf(0, 1, 1, 2, 3, 5, 30, 31);
                return same("foretold(" + n + ")", () -> desk.foretold(n), () -> model.foretold(n));
            case 10:
                return same("without(" + s + ")", () -> desk.without(s), () -> model.without(s));
            case 11:
                return same("between(" + a + ", " + b + ")", () -> desk.between(a, b), () -> model.between(a, b));
            case 12:
                return same("mean()", desk::mean, model::mean);
            case 13:
                return same("outside()", desk::outside, model::outside);
            case 14:
                return same("status(" + i + ")", () -> desk.status(i), () -> model.status(i));
            case 15:
                return same("fault()", desk::fault, () -> model.faultPlace);
            default:
                return same("without(-1)", () -> desk.without(-1), () -> model.without(-1));
        }
    }

    /** Nobody's cash is made: all that dealers and the outside have sums to nought. */
    private boolean cashIsNought() {
        long sum = desk.outside();
        for (int i = 0; i < desk.told(0); i++) {
            sum += desk.dealer(i, 1);
        }
        if (sum != 0) {
            System.out.println(log + "cash sums to " + sum);
        }
        return sum == 0;
    }

    private boolean run() {
        boolean good = tell();
        for (int i = 0; i < CALLS && good; i++) {
            good = (upTo(2) == 0 ? act() : ask()) && same("print()", desk::print, model::print) && cashIsNought();
        }
        return good;
    }

    public static void main(String[] args) {
        int runs = args.length > 0 ? Integer.parseInt(args[0]) : RUNS;
        long from = args.length > 1 ? Long.parseLong(args[1]) : 0;
        for (int i = 0; i < runs; i++) {
            if (!new ModelTest(from + i).run()) {
                System.out.println("ModelTest: run " + (from + i) + " is not as the model's");
                System.exit(1);
            }
        }
        System.out.println("ModelTest: " + runs + " runs as the model's");
    }
}
