/** Promises 11 to 18 and 22 to 26: what is asked of dealers and sales, parts, chains, rings, sums, refusals. */
public final class AskedTest {
    private static final Check CHECK = new Check("AskedTest");

    public static void main(String[] args) {
        told();
        dealer();
        of();
        order();
        parts();
        partsOfMany();
        partsAreThoseOfNow();
        partsRefused();
        chain();
        ring();
        ringByOrder();
        ringOfAll();
        between();
        mean();
        outside();
        print();
        status();
        CHECK.end();
    }

    private static String dealers(int n) {
        return "dealer 0;".repeat(n);
    }

    private static void told() {
        FailDesk desk = Check.told(dealers(3) + "rate 5;lot 6;buyin 7;mark 8;sale 0 1 9 1 0;sale 1 2 4 1 1;sale 1 2 2 1 0;");
        desk.feed(0, 0, 0, 0, 0);
        int[] due = {3, 3, 0, 8, 5, 6, 7, 2, 11, 20, 1};
        for (int i = 0; i < due.length; i++) {
            CHECK.due("told(" + i + ")", desk.told(i), due[i]);
        }
        CHECK.unfit("told(-1)", () -> desk.told(-1));
        CHECK.unfit("told(11)", () -> desk.told(11));
        desk.night();
        CHECK.due("told(2) behind a night", desk.told(2), 1);
        CHECK.due("told(7), one more is due", desk.told(7), 3);
        CHECK.due("told(8)", desk.told(8), 15);
    }

    private static void dealer() {
        FailDesk desk = Check.told("dealer 2;" + dealers(2) + "rate 900;mark 150;sale 0 1 10 100 0;sale 1 2 15 110 0;sale 1 2 3 99 1;");
        desk.night();
        desk.buyin(1, 3);
        long[] first = {0, 200 - 7 - 150, 7, 0, 5, 0, 5, 150, 0};
        long[] second = {0, -200 + 220 + 7 - 12 + 150 - 120, 12, 7, 13, 5, 8, 120, 0};
        long[] third = {5, -220 + 12 - 450 + 120, 0, 12, 0, 13, 0, 0, 3};
        for (int i = 0; i <= 8; i++) {
            CHECK.due("dealer(0, " + i + ")", desk.dealer(0, i), first[i]);
            CHECK.due("dealer(1, " + i + ")", desk.dealer(1, i), second[i]);
            CHECK.due("dealer(2, " + i + ")", desk.dealer(2, i), third[i]);
        }
        CHECK.missing("dealer(3, 0)", () -> desk.dealer(3, 0));
        CHECK.missing("dealer(-1, 0)", () -> desk.dealer(-1, 0));
        CHECK.missing("dealer(3, 9)", () -> desk.dealer(3, 9));
        CHECK.unfit("dealer(0, 9)", () -> desk.dealer(0, 9));
        CHECK.unfit("dealer(0, -1)", () -> desk.dealer(0, -1));
    }

    private static void of() {
        FailDesk desk = Check.told("dealer 2;" + dealers(1) + "sale 0 1 10 100 0;sale 1 0 3 50 0;sale 1 0 5 40 1;");
        desk.night();
        desk.buyin(0, 1);
        int[] first = {0, 1, 10, 100, 0, 4, 3, 2, 1, 0, 1};
        int[] second = {1, 0, 3, 50, 0, 0, 3, 0, 0, 1, 0};
        int[] third = {1, 0, 5, 40, 1, 4, 0, 0, 1, 2, 1};
        for (int i = 0; i <= 10; i++) {
            CHECK.due("of(0, " + i + ")", desk.of(0, i), first[i]);
            CHECK.due("of(1, " + i + ")", desk.of(1, i), second[i]);
            CHECK.due("of(2, " + i + ")", desk.of(2, i), third[i]);
        }
        CHECK.missing("of(3, 0)", () -> desk.of(3, 0));
        CHECK.missing("of(-1, 0)", () -> desk.of(-1, 0));
        CHECK.missing("of(3, 11)", () -> desk.of(3, 11));
        CHECK.unfit("of(0, 11)", () -> desk.of(0, 11));
        CHECK.unfit("of(0, -1)", () -> desk.of(0, -1));
        FailDesk later = Check.told(dealers(2) + "sale 0 1 1 1 2;");
        later.night();
        CHECK.due("of(0, 10) on the day ahead", later.of(0, 10), 0);
        later.night();
        CHECK.due("of(0, 10) on its day", later.of(0, 10), 1);
    }

    private static void order() {
        FailDesk desk = Check.told(dealers(2) + "rule price-open;sale 0 1 5 10 0;sale 0 1 2 7 0;sale 0 1 9 20 9;sale 1 0 3 8 0;");
        int[] due = {1, 2, 0, 3};
        for (int i = 0; i < due.length; i++) {
            CHECK.due("of(" + i + ", 9)", desk.of(i, 9), due[i]);
        }
        desk.buyin(3, 2);
        int[] then = {1, 3, 0, 2};
        for (int i = 0; i < then.length; i++) {
            CHECK.due("of(" + i + ", 9) behind a buy-in", desk.of(i, 9), then[i]);
        }
        FailDesk plain = Check.told(dealers(2) + "sale 0 1 5 10 0;sale 0 1 2 70 0;");
        CHECK.due("of(0, 9) without a rule", plain.of(0, 9), 0);
        CHECK.due("of(1, 9) without a rule", plain.of(1, 9), 1);
        orderOfLongsThatWrap();
    }

    private static void orderOfLongsThatWrap() {
        int[] prices = {9999, 1, 1000, 7777, 3};
        long[] worth = new long[prices.length];
        StringBuilder text = new StringBuilder(dealers(2) + "rule -9999*9999*9999*9999*price;");
        for (int i = 0; i < prices.length; i++) {
            text.append("sale 0 1 1 ").append(prices[i]).append(" 0;");
            worth[i] = -9999L * 9999L * 9999L * 9999L * prices[i];
        }
        FailDesk desk = Check.told(text.toString());
        for (int i = 0; i < prices.length; i++) {
            int place = 0;
            for (long other : worth) {
                place += other > worth[i] ? 1 : 0;
            }
            CHECK.due("rule(" + i + "), wrapped", desk.rule(i), worth[i]);
            CHECK.due("of(" + i + ", 9), wrapped", desk.of(i, 9), place);
        }
    }

    private static void parts() {
        FailDesk desk = Check.told(dealers(4) + "rule price;sale 1 2 6 50 0;sale 1 3 9 60 0;sale 0 1 7 10 0;sale 3 1 4 20 0;sale 0 1 9 99 1;");
        CHECK.due("parts(1)", desk.parts(1), 2);
        CHECK.due("part(1, 0, 0)", desk.part(1, 0, 0), 3);
        CHECK.due("part(1, 0, 1)", desk.part(1, 0, 1), 4);
        CHECK.due("part(1, 1, 0)", desk.part(1, 1, 0), 2);
        CHECK.due("part(1, 1, 1)", desk.part(1, 1, 1), 5);
        CHECK.due("parts(0)", desk.parts(0), 1);
        CHECK.due("part(0, 0, 0)", desk.part(0, 0, 0), 2);
        CHECK.due("part(0, 0, 1)", desk.part(0, 0, 1), 2);
        CHECK.due("parts(2), of who buys nothing", desk.parts(2), 0);
        CHECK.due("parts(3)", desk.parts(3), 1);
        CHECK.due("part(3, 0, 0)", desk.part(3, 0, 0), 1);
        CHECK.due("part(3, 0, 1)", desk.part(3, 0, 1), 4);
        CHECK.due("parts(4), not asked", desk.parts(4), 0);
        CHECK.due("dealer(1, 6)", desk.dealer(1, 6), 4);
        CHECK.due("dealer(0, 6)", desk.dealer(0, 6), 7);
        CHECK.due("dealer(3, 6)", desk.dealer(3, 6), 0);
    }

    private static void partsOfMany() {
        FailDesk desk = Check.told(dealers(2));
        desk.sale(0, 1, 1, 1, 0);
        for (int i = 1; i < 24; i++) {
            desk.sale(i / 12, 1 - i / 12, 2, 1, 0);
        }
        for (int i = 0; i < 24; i++) {
            CHECK.due("parts(" + i + ") of many", desk.parts(i), i == 0 || i == 23 ? 1 : 2);
        }
        CHECK.due("part(23, 0, 0)", desk.part(23, 0, 0), 11);
        CHECK.due("part(22, 1, 0)", desk.part(22, 1, 0), 11);
        CHECK.due("part(11, 1, 0)", desk.part(11, 1, 0), 23);
    }

    private static void partsAreThoseOfNow() {
        FailDesk desk = Check.told(dealers(3) + "sale 0 1 5 5 0;sale 1 2 5 5 0;");
        for (int i = 0; i < 100; i++) {
            CHECK.due("parts(1), asked again", desk.parts(1), 1);
        }
        CHECK.due("dealer(0, 6)", desk.dealer(0, 6), 5);
        desk.buyin(1, 5);
        CHECK.due("parts(1), closed", desk.parts(1), 0);
        CHECK.due("dealer(0, 6), closed", desk.dealer(0, 6), 0);
        CHECK.missing("part(1, 0, 0), closed", () -> desk.part(1, 0, 0));
    }

    private static void partsRefused() {
        FailDesk desk = Check.told(dealers(3) + "sale 0 1 5 5 0;sale 1 2 5 5 0;sale 1 2 5 5 3;");
        CHECK.missing("parts(3)", () -> desk.parts(3));
        CHECK.missing("parts(-1)", () -> desk.parts(-1));
        CHECK.missing("part(3, 0, 0)", () -> desk.part(3, 0, 0));
        CHECK.missing("part(-1, 0, 5)", () -> desk.part(-1, 0, 5));
        CHECK.missing("part(1, 1, 0)", () -> desk.part(1, 1, 0));
        CHECK.missing("part(1, -1, 0)", () -> desk.part(1, -1, 0));
        CHECK.missing("part(1, 1, 2)", () -> desk.part(1, 1, 2));
        CHECK.missing("part(2, 0, 0), not asked", () -> desk.part(2, 0, 0));
        CHECK.missing("part(0, 0, 0), on none", () -> desk.part(0, 0, 0));
        CHECK.unfit("part(1, 0, 2)", () -> desk.part(1, 0, 2));
        CHECK.unfit("part(1, 0, -1)", () -> desk.part(1, 0, -1));
        CHECK.due("status(0)", desk.status(0), 9);
    }

    private static void chain() {
        FailDesk desk = Check.told(dealers(5) + "sale 3 4 5 5 0;sale 2 3 5 5 0;sale 1 3 5 5 0;sale 0 2 1 5 0;sale 2 0 5 5 0;sale 3 4 5 5 7;");
        int[] due = {0, 1, 3, 4};
        for (int i = 0; i < due.length; i++) {
            CHECK.due("chain(0, " + i + ")", desk.chain(0, i), due[i]);
        }
        CHECK.missing("chain(0, 4), no part", () -> desk.chain(0, 4));
        CHECK.due("chain(2, 0)", desk.chain(2, 0), 2);
        CHECK.missing("chain(2, 1)", () -> desk.chain(2, 1));
        CHECK.missing("chain(0, -1)", () -> desk.chain(0, -1));
        CHECK.missing("chain(5, 0), not asked", () -> desk.chain(5, 0));
        CHECK.missing("chain(6, 0)", () -> desk.chain(6, 0));
        CHECK.missing("chain(-1, 0)", () -> desk.chain(-1, 0));
        CHECK.missing("chain(0, 2147483647)", () -> desk.chain(0, Integer.MAX_VALUE));
        FailDesk round = Check.told(dealers(3) + "sale 0 1 5 5 0;sale 1 2 5 5 0;sale 2 1 5 5 0;");
        CHECK.due("chain(2, 1)", round.chain(2, 1), 1);
        CHECK.due("chain(2, 2)", round.chain(2, 2), 0);
        CHECK.missing("chain(2, 3)", () -> round.chain(2, 3));
        FailDesk loop = Check.told(dealers(4) + "sale 2 3 2 5 0;sale 1 2 5 5 0;sale 2 1 5 5 0;");
        CHECK.due("chain(0, 1) into a loop", loop.chain(0, 1), 1);
        CHECK.due("chain(0, 2) into a loop", loop.chain(0, 2), 2);
        CHECK.missing("chain(0, 3) into a loop", () -> loop.chain(0, 3));
        FailDesk ring = Check.told(dealers(2) + "sale 0 1 5 5 0;sale 1 0 5 5 0;");
        CHECK.due("chain(0, 1)", ring.chain(0, 1), 1);
        CHECK.missing("chain(0, 2), it is in the chain already", () -> ring.chain(0, 2));
    }

    private static void rings(FailDesk desk, String when, int units, int... due) {
        CHECK.due("ring(0) " + when, desk.ring(0), due.length == 0 ? -1 : due.length);
        CHECK.due("ring(1) " + when, desk.ring(1), units);
        for (int i = 0; i < 8; i++) {
            CHECK.due("ring(" + (2 + i) + ") " + when, desk.ring(2 + i), i < due.length ? due[i] : -1);
        }
    }

    private static void ring() {
        FailDesk desk = Check.told(dealers(3) + "lot 4;sale 0 1 10 1 0;sale 1 2 9 1 0;sale 2 0 6 1 0;");
        rings(desk, "of three", 4, 0, 1, 2);
        desk.buyin(2, 3);
        rings(desk, "with less than a lot", -1);
        FailDesk later = Check.told(dealers(2) + "sale 0 1 10 1 0;sale 1 0 9 1 1;");
        rings(later, "ahead of its day", -1);
        later.night();
        rings(later, "on its day", 9, 0, 1);
        CHECK.unfit("ring(-1)", () -> later.ring(-1));
        CHECK.unfit("ring(10)", () -> later.ring(10));
        CHECK.due("told(10), nothing stays changed", later.told(10), 2);
    }

    private static void ringByOrder() {
        String four = dealers(3) + "sale 0 1 10 1 0;sale 1 0 10 1 0;sale 1 2 10 1 0;sale 2 0 10 1 0;";
        rings(Check.told(four), "by number", 10, 0, 1);
        rings(Check.told(four + "rule seller*buyer;"), "by a rule", 10, 2, 3, 0);
        rings(Check.told(four + "rule seller*buyer+seller;"), "by a rule, the first that is unlike", 10, 2, 3, 0);
        rings(Check.told(dealers(3) + "sale 0 1 3 1 0;sale 1 2 3 1 0;sale 1 0 3 1 0;"), "past a dead end", 3, 0, 2);
        rings(Check.told(dealers(3) + "sale 0 1 3 1 0;sale 1 2 3 1 0;sale 2 1 3 1 0;sale 2 0 3 1 0;"),
                "none sold by the same", 3, 0, 1, 3);
        rings(Check.told(dealers(4) + "sale 0 1 3 1 0;sale 1 2 3 1 0;sale 2 3 3 1 0;sale 3 2 2 1 0;"),
                "past sales that are in none", 2, 2, 3);
        rings(Check.told(dealers(4) + "sale 0 1 3 1 0;sale 1 2 3 1 0;sale 2 3 3 1 0;sale 3 1 2 1 0;sale 2 0 1 1 0;"),
                "past a round that does not lead home", 1, 0, 1, 4);
        rings(Check.told(dealers(3) + "sale 0 2 2 1 0;sale 2 1 3 1 0;sale 1 0 4 1 0;"), "the least is the first", 2, 0, 1, 2);
        rings(Check.told(dealers(4) + "sale 0 1 3 1 0;sale 1 2 3 1 0;sale 2 3 3 1 0;sale 3 0 3 1 0;sale 2 1 3 1 0;"),
                "of one who sells to several", 3, 0, 1, 2, 3);
        rings(Check.told(dealers(3) + "sale 0 1 3 1 0;sale 1 2 3 1 0;sale 2 1 3 1 0;sale 2 0 3 1 0;sale 1 0 3 1 0;"),
                "none sold by the same, though he could lead home", 3, 0, 1, 3);
        FailDesk desk = Check.told(dealers(3) + "sale 0 1 3 1 0;sale 1 2 3 1 0;sale 1 0 3 1 0;");
        desk.sale(2, 0, 3, 1, 0);
        rings(desk, "with one more sale", 3, 0, 1, 3);
        desk.undo();
        rings(desk, "with that taken back", 3, 0, 2);
    }

    private static void ringOfAll() {
        StringBuilder text = new StringBuilder(dealers(8));
        for (int i = 0; i < 8; i++) {
            text.append("sale ").append(i).append(' ').append((i + 1) % 8).append(' ').append(20 - i).append(" 1 0;");
        }
        FailDesk desk = Check.told(text.toString());
        rings(desk, "of eight", 13, 0, 1, 2, 3, 4, 5, 6, 7);
        CHECK.due("night() of eight", desk.night(), 7);
        rings(desk, "behind the night", -1);
    }

    private static void between() {
        FailDesk desk = Check.told(dealers(3) + "sale 0 1 5 1 0;sale 0 1 6 1 0;sale 0 1 7 1 1;sale 1 0 8 1 0;sale 0 2 9 1 0;");
        CHECK.due("between(0, 1)", desk.between(0, 1), 11);
        CHECK.due("between(1, 0)", desk.between(1, 0), 8);
        CHECK.due("between(0, 2)", desk.between(0, 2), 9);
        CHECK.due("between(2, 0)", desk.between(2, 0), 0);
        CHECK.due("between(0, 0)", desk.between(0, 0), 0);
        CHECK.missing("between(3, 0)", () -> desk.between(3, 0));
        CHECK.missing("between(0, 3)", () -> desk.between(0, 3));
        CHECK.missing("between(-1, 0)", () -> desk.between(-1, 0));
        CHECK.missing("between(0, -1)", () -> desk.between(0, -1));
    }

    private static void mean() {
        FailDesk desk = Check.told(dealers(2) + "sale 0 1 1 1 0;");
        CHECK.due("mean() of 1", desk.mean(), Double.doubleToLongBits(1.0));
        desk.sale(0, 1, 2, 2, 0);
        CHECK.due("mean() of 5 by 3", desk.mean(), Double.doubleToLongBits(5.0 / 3.0));
        desk.sale(0, 1, 1000, 10000, 0);
        CHECK.due("mean() of many", desk.mean(), Double.doubleToLongBits(10_000_005.0 / 1003.0));
        desk.sale(0, 1, 1000, 1, 5);
        CHECK.due("mean() without what is not due", desk.mean(), Double.doubleToLongBits(10_000_005.0 / 1003.0));
        FailDesk great = Check.told(dealers(2) + "sale 0 1 1000 10000 0;");
        CHECK.due("mean() of the greatest price", great.mean(), Double.doubleToLongBits(10_000.0));
        FailDesk none = Check.told(dealers(2) + "sale 0 1 1000 10000 1;");
        CHECK.due("mean() without fails", none.mean(), Double.doubleToLongBits(0.0));
        for (int price = 1; price <= 4096; price = price * 2 + 1) {
            FailDesk each = Check.told(dealers(2) + "sale 0 1 3 " + price + " 0;sale 0 1 4 " + (price + 1) + " 0;");
            CHECK.due("mean() at " + price, each.mean(), Double.doubleToLongBits((7.0 * price + 4.0) / 7.0));
        }
    }

    private static void outside() {
        FailDesk desk = Check.told(dealers(3) + "mark 7;sale 0 1 9 100 0;sale 1 2 9 100 0;");
        desk.buyin(1, 4);
        CHECK.due("outside()", desk.outside(), 28);
        desk.mark(9);
        desk.buyin(0, 1);
        CHECK.due("outside() at another mark", desk.outside(), 37);
        long sum = desk.outside() + desk.dealer(0, 1) + desk.dealer(1, 1) + desk.dealer(2, 1);
        CHECK.due("cash together", sum, 0);
        desk.undo();
        CHECK.due("outside() taken back", desk.outside(), 28);
    }

    private static void print() {
        FailDesk desk = Check.told("dealer 3;dealer 4;sale 0 1 5 7 0;sale 1 0 6 7 9;");
        CHECK.due("print()", desk.print(), ((((3L * 31 * 31 + 4) * 31) * 31 + 5) * 31) + 6);
        desk.night();
        CHECK.due("print() behind a night", desk.print(), ((((21L * 31 + 7) * 31 - 21) * 31 + 2) * 31) + 6);
        FailDesk far = Check.told("dealer 9999;".repeat(8) + "sale 0 1 1000 10000 0;sale 0 1 1000 10000 0;");
        far.night();
        long due = 0;
        for (int i = 0; i < 8; i++) {
            due = (due * 31 + far.dealer(i, 0)) * 31 + far.dealer(i, 1);
        }
        CHECK.due("print(), longs that wrap", far.print(), due * 31 * 31);
    }

    private static void status() {
        FailDesk desk = Check.told(dealers(2));
        for (int i = 0; i < 3; i++) {
            CHECK.due("status(" + i + ") at first", desk.status(i), 0);
        }
        CHECK.missing("of(0, 0)", () -> desk.of(0, 0));
        CHECK.unfit("told(99)", () -> desk.told(99));
        CHECK.unfit("most(2)", () -> desk.most(2));
        for (int i = 0; i < 24; i++) {
            desk.sale(0, 1, 1, 1, 9);
        }
        CHECK.untimely("sale", () -> desk.sale(0, 1, 1, 1, 1));
        CHECK.untimely("buyin", () -> desk.buyin(0, 1));
        CHECK.untimely("buyin", () -> desk.buyin(1, 1));
        int[] due = {1, 2, 3};
        for (int i = 0; i < 3; i++) {
            CHECK.due("status(" + i + ")", desk.status(i), due[i]);
        }
        CHECK.due("status(3)", desk.status(3), -1);
        CHECK.due("status(-1)", desk.status(-1), -1);
        desk.text(0);
        CHECK.due("status(1) behind text()", desk.status(1), 2);
    }
}
