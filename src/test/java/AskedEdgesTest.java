/** Each sentence of the document on what is asked that names an edge (promises 11 to 26). */
public final class AskedEdgesTest {
    private static final Check CHECK = new Check("AskedEdgesTest");
    private static final int LOW = Integer.MIN_VALUE;
    private static final int HIGH = Integer.MAX_VALUE;
    /** Three asked, one in part delivered, one not due, one settled whole. */
    private static final String HOUSE = "dealer 4;dealer 0;dealer 0;rate 900;mark 130;rule price-open;sale 0 1 10 100 0;"
            + "sale 1 2 15 120 0;sale 2 0 2 90 0;sale 1 2 6 80 5;sale 2 1 3 70 0;";

    public static void main(String[] args) {
        told();
        dealer();
        dealerSums();
        of();
        asked();
        placesInOrder();
        rule();
        part();
        parts();
        partsUnitByUnit();
        ownFault();
        chain();
        chainOfMany();
        ring();
        ringSizes();
        ringFirstByOrder();
        most();
        mostNobodyGivesMore();
        mostOfTheGreatest();
        foretold();
        foretoldIsThenSo();
        without();
        withoutIsThenSo();
        between();
        mean();
        outside();
        cashSumsToNought();
        print();
        status();
        nothingStaysChanged();
        CHECK.end();
    }

    private static String dealers(int n) {
        return "dealer 0;".repeat(n);
    }

    private static FailDesk house() {
        FailDesk desk = Check.told(HOUSE);
        desk.night();
        desk.buyin(1, 2);
        return desk;
    }

    /** "0 DEALERS .. 10 ACTS that can be taken back"; another number is none such. */
    private static void told() {
        FailDesk desk = house();
        int[] due = {3, 5, 1, 130, 900, 1, 4, 2, 6, 0, 3};
        for (int i = 0; i < due.length; i++) {
            int what = i;
            CHECK.asked(desk, "told(" + i + ")", () -> desk.told(what), due[i]);
        }
        for (int what : new int[] {-1, 11, LOW, HIGH}) {
            CHECK.refused(desk, 1, "told(" + what + ")", () -> desk.told(what));
        }
    }

    /** "NoSuchElementException: no such DEALER", ahead of a number that is none such. */
    private static void dealer() {
        FailDesk desk = house();
        for (int what : new int[] {-1, 9, LOW, HIGH}) {
            CHECK.refused(desk, 1, "dealer(2, " + what + ")", () -> desk.dealer(2, what));
        }
        for (int nobody : new int[] {-1, 3, 8, LOW, HIGH}) {
            CHECK.refused(desk, 0, "dealer(" + nobody + ", 0)", () -> desk.dealer(nobody, 0));
            CHECK.refused(desk, 0, "dealer(" + nobody + ", 9)", () -> desk.dealer(nobody, 9));
        }
    }

    /** What dealers were told to have at first, and each sum by itself. */
    private static void dealerSums() {
        FailDesk fresh = Check.told("dealer 9999;" + dealers(7));
        for (int d = 0; d < 8; d++) {
            for (int what = 0; what <= 8; what++) {
                CHECK.due("dealer(" + d + ", " + what + ") at first", fresh.dealer(d, what), d == 0 && what == 0 ? 9999 : 0);
            }
        }
        FailDesk desk = house();
        long[][] due = {
            {0, 200 - 180 + 400 - 3 - 60, 3, 0, 2, 0, 2, 60, 0},
            {0, 600 - 600 - 210 + 480 - 6 + 3 + 60 - 20, 6, 3, 4, 2, 2, 20, 0},
            {6, -600 + 180 + 210 - 480 + 6 - 260 + 20, 0, 6, 0, 4, 0, 0, 2},
        };
        for (int d = 0; d < 3; d++) {
            for (int what = 0; what <= 8; what++) {
                CHECK.due("dealer(" + d + ", " + what + ")", desk.dealer(d, what), due[d][what]);
            }
        }
    }

    /** "0 SELLER .. 10 1 it is ASKED"; no such SALE ahead of a number that is none such. */
    private static void of() {
        FailDesk desk = house();
        int[][] due = {
            {0, 1, 10, 100, 0, 2, 2, 4, 2, 1, 1},
            {1, 2, 15, 120, 0, 4, 5, 4, 2, 0, 1},
            {2, 0, 2, 90, 0, 0, 2, 0, 0, 2, 0},
            {1, 2, 6, 80, 5, 6, 0, 0, 0, 3, 0},
            {2, 1, 3, 70, 0, 0, 3, 0, 0, 4, 0},
        };
        for (int sale = 0; sale < due.length; sale++) {
            for (int what = 0; what <= 10; what++) {
                CHECK.due("of(" + sale + ", " + what + ")", desk.of(sale, what), due[sale][what]);
            }
        }
        for (int what : new int[] {-1, 11, LOW, HIGH}) {
            CHECK.refused(desk, 1, "of(4, " + what + ")", () -> desk.of(4, what));
        }
        for (int sale : new int[] {-1, 5, 24, LOW, HIGH}) {
            CHECK.refused(desk, 0, "of(" + sale + ", 0)", () -> desk.of(sale, 0));
            CHECK.refused(desk, 0, "of(" + sale + ", 11)", () -> desk.of(sale, 11));
        }
    }

    /** "ASKED, if it is due (its DAY is DAY or earlier) and OPEN is above 0." */
    private static void asked() {
        FailDesk desk = Check.told(dealers(2) + "buyin 30;sale 0 1 2 1 0;sale 0 1 2 1 1;sale 0 1 2 1 2;");
        for (int day = 0; day < 4; day++) {
            for (int i = 0; i < 3; i++) {
                CHECK.due("of(" + i + ", 10) on day " + day, desk.of(i, 10), i <= day ? 1 : 0);
            }
            CHECK.due("told(7) on day " + day, desk.told(7), Math.min(3, day + 1));
            CHECK.due("told(8) on day " + day, desk.told(8), 2 * Math.min(3, day + 1));
            desk.night();
        }
        desk.buyin(1, 1);
        CHECK.due("of(1, 10), one is open", desk.of(1, 10), 1);
        desk.buyin(1, 1);
        CHECK.due("of(1, 10), none is open", desk.of(1, 10), 0);
        CHECK.due("told(7)", desk.told(7), 2);
        FailDesk last = Check.told(dealers(2) + "buyin 30;sale 0 1 2 1 500;");
        for (int i = 0; i < 500; i++) {
            CHECK.due("of(0, 10) on day " + i, last.of(0, 10), 0);
            last.night();
        }
        CHECK.due("of(0, 10) on day 500", last.of(0, 10), 1);
    }

    /** "The greatest first, of several the least number"; "its place in ORDER now (of all SALES, from 0 on)". */
    private static void placesInOrder() {
        FailDesk same = Check.told(dealers(2) + "rule 5;");
        FailDesk falling = Check.told(dealers(2) + "rule -price;");
        FailDesk rising = Check.told(dealers(2) + "rule price;");
        FailDesk pairs = Check.told(dealers(2) + "rule units;");
        for (int i = 0; i < 24; i++) {
            for (FailDesk desk : new FailDesk[] {same, falling, rising, pairs}) {
                desk.sale(0, 1, 1 + i / 2, 1 + i, i % 3 == 0 ? 9 : 0);
            }
        }
        for (int i = 0; i < 24; i++) {
            CHECK.due("of(" + i + ", 9), all the same", same.of(i, 9), i);
            CHECK.due("of(" + i + ", 9), the greatest first", falling.of(i, 9), i);
            CHECK.due("of(" + i + ", 9), the greatest last", rising.of(i, 9), 23 - i);
            CHECK.due("of(" + i + ", 9), in pairs", pairs.of(i, 9), 2 * (11 - i / 2) + i % 2);
        }
        FailDesk far = Check.told(dealers(2) + "rule 8192*8192*8192*8192*2048-(price-1);sale 0 1 1 1 0;sale 0 1 1 2 0;sale 0 1 1 3 0;");
        CHECK.due("rule(0), the least long", far.rule(0), Long.MIN_VALUE);
        CHECK.due("rule(1), the greatest long", far.rule(1), Long.MAX_VALUE);
        CHECK.due("of(0, 9), the least long is the last", far.of(0, 9), 2);
        CHECK.due("of(1, 9), the greatest long is the first", far.of(1, 9), 0);
        CHECK.due("of(2, 9), the next one", far.of(2, 9), 1);
    }

    /** "What the rule gives for a SALE now", asked or not. */
    private static void rule() {
        FailDesk desk = house();
        long[] due = {98, 116, 90, 74, 70};
        for (int i = 0; i < due.length; i++) {
            int sale = i;
            CHECK.asked(desk, "rule(" + i + ")", () -> desk.rule(sale), due[i]);
        }
        for (int sale : new int[] {-1, 5, 24, LOW, HIGH}) {
            CHECK.refused(desk, 0, "rule(" + sale + ")", () -> desk.rule(sale));
        }
    }

    /** "PART i of a SALE: 0 the SALE on which it stands, 1 how many units"; no such PART ahead of no such number. */
    private static void part() {
        FailDesk desk = Check.told(HOUSE);
        CHECK.due("part(1, 0, 0)", desk.part(1, 0, 0), 0);
        CHECK.due("part(1, 0, 1)", desk.part(1, 0, 1), 10);
        CHECK.due("part(1, 1, 0)", desk.part(1, 1, 0), 4);
        CHECK.due("part(1, 1, 1)", desk.part(1, 1, 1), 3);
        for (int what : new int[] {-1, 2, LOW, HIGH}) {
            CHECK.refused(desk, 1, "part(1, 1, " + what + ")", () -> desk.part(1, 1, what));
        }
        for (int i : new int[] {-1, 2, 24, LOW, HIGH}) {
            CHECK.refused(desk, 0, "part(1, " + i + ", 0)", () -> desk.part(1, i, 0));
            CHECK.refused(desk, 0, "part(1, " + i + ", 2)", () -> desk.part(1, i, 2));
        }
        for (int sale : new int[] {-1, 5, 24, LOW, HIGH}) {
            CHECK.refused(desk, 0, "part(" + sale + ", 0, 0)", () -> desk.part(sale, 0, 0));
            CHECK.refused(desk, 0, "part(" + sale + ", 0, 2)", () -> desk.part(sale, 0, 2));
        }
        CHECK.refused(desk, 0, "part(3, 0, 0), not due", () -> desk.part(3, 0, 0));
        desk.night();
        CHECK.refused(desk, 0, "part(2, 0, 0), nothing is open", () -> desk.part(2, 0, 0));
        CHECK.refused(desk, 0, "part(0, 0, 0), it stands on none", () -> desk.part(0, 0, 0));
    }

    /** "How many PARTS a SALE has (0, if it is not ASKED)." */
    private static void parts() {
        FailDesk desk = Check.told(HOUSE);
        int[] due = {1, 2, 1, 0, 1};
        for (int i = 0; i < due.length; i++) {
            CHECK.due("parts(" + i + ")", desk.parts(i), due[i]);
        }
        desk.night();
        int[] then = {0, 1, 0, 0, 0};
        for (int i = 0; i < then.length; i++) {
            CHECK.due("parts(" + i + ") behind the night", desk.parts(i), then[i]);
        }
        for (int sale : new int[] {-1, 5, 24, LOW, HIGH}) {
            CHECK.refused(desk, 0, "parts(" + sale + ")", () -> desk.parts(sale));
        }
        FailDesk many = Check.told(dealers(2));
        many.sale(0, 1, 23, 1, 0);
        for (int i = 1; i < 24; i++) {
            many.sale(1, 0, 1, 1, 0);
        }
        CHECK.due("parts(0) on all others", many.parts(0), 23);
        CHECK.due("part(0, 22, 0)", many.part(0, 22, 0), 23);
        CHECK.due("part(23, 0, 0)", many.part(23, 0, 0), 0);
        CHECK.missing("part(0, 23, 0)", () -> many.part(0, 23, 0));
    }

    /** "In ORDER, stand on those that he buys, in ORDER, unit by unit, from the first on." */
    private static void partsUnitByUnit() {
        int[][] cases = {{5, 5, 1, 0}, {5, 6, 1, 1}, {5, 4, 1, 2}, {10, 10, 2, 0}};
        for (int[] c : cases) {
            FailDesk desk = Check.told(dealers(4) + "sale 1 2 " + c[0] + " 1 0;sale 1 3 5 1 0;sale 0 1 " + c[1] + " 1 0;sale 0 1 4 1 0;");
            int second = c[1] - Math.min(c[0], c[1]);
            String when = "of " + c[0] + " on " + c[1];
            CHECK.due("part(0, 0, 0) " + when, desk.part(0, 0, 0), 2);
            CHECK.due("part(0, 0, 1) " + when, desk.part(0, 0, 1), Math.min(c[0], c[1]));
            CHECK.due("parts(0) " + when, desk.parts(0), c[0] > c[1] ? 2 : 1);
            CHECK.due("part(1, 0, 0) " + when, desk.part(1, 0, 0), second > 0 ? 2 : 3);
            CHECK.due("parts(1) " + when, desk.parts(1), second > 0 ? 2 : 1);
            CHECK.due("dealer(1, 6) " + when, desk.dealer(1, 6), Math.max(0, c[0] + 5 - c[1] - 4));
        }
    }

    /** "Units of it that stand on none are his OWN FAULT." */
    private static void ownFault() {
        int[][] cases = {{9, 10, 1}, {10, 10, 0}, {11, 10, 0}, {1, 1000, 999}};
        for (int[] c : cases) {
            FailDesk desk = Check.told(dealers(3) + "sale 0 1 " + c[0] + " 1 0;sale 1 2 " + c[1] + " 1 0;");
            String when = "of " + c[1] + " on " + c[0];
            CHECK.due("dealer(0, 6) " + when, desk.dealer(0, 6), c[0]);
            CHECK.due("dealer(1, 6) " + when, desk.dealer(1, 6), c[2]);
            CHECK.due("dealer(2, 6) " + when, desk.dealer(2, 6), 0);
        }
        FailDesk stocked = Check.told("dealer 0;dealer 50;dealer 0;sale 1 2 9 1 0;");
        CHECK.due("dealer(1, 6), stock is no matter", stocked.dealer(1, 6), 9);
        FailDesk later = Check.told(dealers(3) + "sale 0 1 9 1 1;sale 1 2 9 1 0;");
        CHECK.due("dealer(1, 6), what is not due is none to stand on", later.dealer(1, 6), 9);
        CHECK.due("dealer(0, 6), not due", later.dealer(0, 6), 0);
        later.night();
        CHECK.due("dealer(1, 6), due", later.dealer(1, 6), 0);
        CHECK.due("dealer(0, 6), due", later.dealer(0, 6), 9);
    }

    /** "NoSuchElementException: also it has not so many, it is not ASKED." */
    private static void chain() {
        FailDesk desk = Check.told(HOUSE);
        int[][] due = {{0, 2, 1}, {1, 0, 2}, {2, 1, 0}, {}, {4, 1, 0, 2}};
        for (int sale = 0; sale < due.length; sale++) {
            int of = sale;
            for (int i = 0; i < due[sale].length; i++) {
                int at = i;
                CHECK.asked(desk, "chain(" + sale + ", " + i + ")", () -> desk.chain(of, at), due[sale][i]);
            }
            for (int i : new int[] {-1, due[sale].length, 24, LOW, HIGH}) {
                CHECK.refused(desk, 0, "chain(" + sale + ", " + i + ")", () -> desk.chain(of, i));
            }
        }
        for (int sale : new int[] {-1, 5, 24, LOW, HIGH}) {
            CHECK.refused(desk, 0, "chain(" + sale + ", 0)", () -> desk.chain(sale, 0));
        }
        desk.night();
        CHECK.refused(desk, 0, "chain(2, 0), nothing is open", () -> desk.chain(2, 0));
        CHECK.refused(desk, 0, "chain(3, 0), not due", () -> desk.chain(3, 0));
        CHECK.due("chain(0, 0), no part", desk.chain(0, 0), 0);
        CHECK.refused(desk, 0, "chain(0, 1), no part", () -> desk.chain(0, 1));
    }

    /** "As long as there is one, and it is not in the CHAIN already": the longest one has all 24. */
    private static void chainOfMany() {
        FailDesk desk = Check.told(dealers(2));
        for (int i = 0; i < 24; i++) {
            desk.sale(i % 2, 1 - i % 2, 1, 1, 0);
        }
        CHECK.due("chain(0, 1), the first two stand on one another", desk.chain(0, 1), 1);
        CHECK.missing("chain(0, 2)", () -> desk.chain(0, 2));
        FailDesk all = Check.told(dealers(2));
        for (int i = 0; i < 24; i++) {
            all.sale(i % 2, 1 - i % 2, i == 0 ? 1 : 2, 1, 0);
        }
        for (int i = 0; i < 24; i++) {
            CHECK.due("chain(23, " + i + "), each on the one ahead", all.chain(23, i), 23 - i);
        }
        CHECK.missing("chain(23, 24), there are no more", () -> all.chain(23, 24));
        FailDesk row = Check.told(dealers(8));
        for (int i = 0; i < 7; i++) {
            row.sale(i, i + 1, 5, 1, 0);
        }
        for (int i = 0; i < 7; i++) {
            CHECK.due("chain(6, " + i + ") down a row", row.chain(6, i), 6 - i);
        }
        CHECK.missing("chain(6, 7) down a row", () -> row.chain(6, 7));
    }

    /** "NONE: there is no RING, it has not so many. IllegalArgumentException: what is not 0 to 9." */
    private static void ring() {
        FailDesk none = Check.told(dealers(2) + "sale 0 1 5 1 0;sale 1 0 5 1 1;");
        FailDesk desk = Check.told(HOUSE);
        int[] due = {3, 2, 1, 2, 0, -1, -1, -1, -1, -1};
        for (int i = 0; i <= 9; i++) {
            int what = i;
            CHECK.asked(none, "ring(" + i + ") of none", () -> none.ring(what), -1);
            CHECK.asked(desk, "ring(" + i + ")", () -> desk.ring(what), due[i]);
        }
        for (int what : new int[] {-1, 10, LOW, HIGH}) {
            CHECK.refused(none, 1, "ring(" + what + ") of none", () -> none.ring(what));
            CHECK.refused(desk, 1, "ring(" + what + ")", () -> desk.ring(what));
        }
    }

    /** From two sales up to as many as there are dealers. */
    private static void ringSizes() {
        for (int size = 2; size <= 8; size++) {
            FailDesk desk = Check.told(dealers(8) + "lot 3;");
            for (int i = 0; i < size; i++) {
                desk.sale(i, (i + 1) % size, 9 - i, 1, 0);
                CHECK.due("ring(0) of " + (i + 1) + " of " + size, desk.ring(0),
                        i < size - 1 || 9 - i < 3 ? -1 : size);
            }
            int units = (10 - size) / 3 * 3;
            CHECK.due("ring(1) of " + size, desk.ring(1), units == 0 ? -1 : units);
            for (int i = 0; i < 8; i++) {
                CHECK.due("ring(" + (2 + i) + ") of " + size, desk.ring(2 + i), units > 0 && i < size ? i : -1);
            }
        }
    }

    /** "Of those that begin with the first SALE in ORDER that has some the first by ORDER." */
    private static void ringFirstByOrder() {
        String text = dealers(4) + "sale 2 3 5 1 0;sale 3 1 5 2 0;sale 1 2 5 3 0;sale 3 2 5 4 0;sale 0 1 5 9 0;";
        int[][] due = {{0, 1, 2}, {3, 0}, {1, 2, 0}, {0, 3}};
        String[] rules = {"", "rule price;", "rule seller;", "rule buyer*10-seller;"};
        for (int i = 0; i < rules.length; i++) {
            FailDesk desk = Check.told(text + rules[i]);
            CHECK.due("ring(0) by \"" + rules[i] + "\"", desk.ring(0), due[i].length);
            for (int k = 0; k < due[i].length; k++) {
                CHECK.due("ring(" + (2 + k) + ") by \"" + rules[i] + "\"", desk.ring(2 + k), due[i][k]);
            }
        }
    }

    private static void both(String text, long units, long byPrice) {
        FailDesk desk = Check.told(text);
        CHECK.asked(desk, "most(0) of " + text, () -> desk.most(0), units);
        CHECK.asked(desk, "most(1) of " + text, () -> desk.most(1), byPrice);
    }

    /** "Units of ASKED SALES (no more than OPEN each, LOTS no matter)." */
    private static void most() {
        both("", 0, 0);
        both(dealers(8), 0, 0);
        both("dealer 9;dealer 0;sale 0 1 5 7 1;", 0, 0);
        both("dealer 4;dealer 0;sale 0 1 5 7 0;", 4, 28);
        both("dealer 5;dealer 0;sale 0 1 5 7 0;", 5, 35);
        both("dealer 6;dealer 0;sale 0 1 5 7 0;", 5, 35);
        both("dealer 7;dealer 0;lot 100;sale 0 1 50 7 0;", 7, 49);
        both(dealers(2) + "lot 100;sale 0 1 5 7 0;sale 1 0 6 9 0;", 10, 80);
        FailDesk desk = Check.told("dealer 9;dealer 0;sale 0 1 5 7 0;");
        desk.buyin(0, 3);
        CHECK.due("most(0), of what is open", desk.most(0), 2);
        for (int what : new int[] {-1, 2, LOW, HIGH}) {
            CHECK.refused(desk, 1, "most(" + what + ")", () -> desk.most(what));
        }
    }

    /** "So that nobody gives more than STOCK and what he gets by these." */
    private static void mostNobodyGivesMore() {
        both("dealer 3;" + dealers(2) + "sale 1 2 9 1 0;sale 0 1 2 1 0;", 4, 4);
        both("dealer 3;dealer 1;dealer 0;sale 1 2 9 5 0;sale 0 1 2 1 0;", 5, 17);
        both(dealers(3) + "sale 0 1 5 1 0;sale 1 2 5 1 0;", 0, 0);
        both(dealers(3) + "sale 0 1 5 1 0;sale 1 2 4 1 0;sale 2 0 3 1 0;", 9, 9);
        both("dealer 1;" + dealers(2) + "sale 0 1 5 1 0;sale 1 2 4 1 0;sale 2 0 3 1 0;", 11, 11);
        both("dealer 2;" + dealers(3) + "sale 0 1 2 1 0;sale 1 2 2 1 0;sale 0 3 2 5 0;", 4, 10);
        both("dealer 0;dealer 0;dealer 5;sale 0 1 9 1 0;sale 1 0 9 1 0;sale 1 2 9 1 0;", 18, 18);
    }

    private static void mostOfTheGreatest() {
        FailDesk desk = Check.told(dealers(2));
        for (int i = 0; i < 24; i++) {
            desk.sale(i % 2, 1 - i % 2, 1000, 10_000, 0);
        }
        CHECK.due("most(0) of all", desk.most(0), 24_000);
        CHECK.due("most(1) of all", desk.most(1), 240_000_000L);
        FailDesk one = Check.told(dealers(2));
        one.stock(0, 100_000);
        for (int i = 0; i < 24; i++) {
            one.sale(0, 1, 1000, 10_000, 0);
        }
        CHECK.due("most(0) by one", one.most(0), 24_000);
        one.stock(0, 1);
        CHECK.due("most(0) of one unit", one.most(0), 1);
        CHECK.due("most(1) of one unit", one.most(1), 10_000);
        one.stock(0, 0);
        CHECK.due("most(0) of nothing", one.most(0), 0);
        FailDesk row = Check.told("dealer 1;" + dealers(7));
        for (int i = 0; i < 24; i++) {
            row.sale(i % 7, i % 7 + 1, 1 + i % 3, 1 + i, 0);
        }
        CHECK.due("most(0) down a row", row.most(0), 7);
        CHECK.due("most(1) down a row, the dearest of each", row.most(1), 22 + 23 + 24 + 18 + 19 + 20 + 21);
    }

    /** "In the n-th NIGHT from now (1 to 30)." */
    private static void foretold() {
        FailDesk desk = Check.told(dealers(2) + "buyin 30;sale 0 1 5 1 0;sale 0 1 7 1 29;sale 0 1 9 1 30;");
        for (int n = 1; n <= 30; n++) {
            int nights = n;
            CHECK.asked(desk, "foretold(" + n + ")", () -> desk.foretold(nights), n == 30 ? 12 : 5);
        }
        for (int n : new int[] {0, -1, 31, LOW, HIGH}) {
            CHECK.refused(desk, 1, "foretold(" + n + ")", () -> desk.foretold(n));
        }
        desk.night();
        CHECK.due("foretold(30) from the next day", desk.foretold(30), 21);
    }

    /** "If nothing else is done": what the n-th night will be is what the first one is, n - 1 nights later. */
    private static void foretoldIsThenSo() {
        FailDesk desk = Check.told("dealer 9;dealer 3;dealer 0;dealer 1;lot 2;rate 77;buyin 3;mark 105;rule age*open-price;"
                + "sale 0 1 20 100 0;sale 1 2 15 110 2;sale 2 3 9 90 4;sale 3 0 4 80 5;sale 2 1 30 99 9;sale 1 3 8 101 12;");
        int[] due = new int[31];
        for (int n = 1; n <= 30; n++) {
            due[n] = desk.foretold(n);
        }
        for (int n = 1; n <= 30; n++) {
            CHECK.due("foretold(1) behind " + (n - 1) + " nights", desk.foretold(1), due[n]);
            desk.night();
        }
    }

    /** "A SALE left out (NONE: none)"; "NoSuchElementException: no such SALE, and not NONE." */
    private static void without() {
        FailDesk desk = house();
        for (int sale : new int[] {-2, 5, 24, LOW, HIGH}) {
            CHECK.refused(desk, 0, "without(" + sale + ")", () -> desk.without(sale));
        }
        long[] due = {1 + 4, 4, 1, 5, 5, 5};
        for (int i = -1; i < 5; i++) {
            int sale = i;
            CHECK.asked(desk, "without(" + i + ")", () -> desk.without(sale), due[i + 1]);
        }
    }

    private static final String[] SALES = {"sale 0 1 20 1000 0;", "sale 1 2 15 1100 0;", "sale 2 3 9 900 0;", "sale 3 0 4 800 0;",
        "sale 2 1 30 990 0;", "sale 1 3 8 1010 0;", "sale 0 3 7 1005 1;"};

    /** What is left out is as if it were never told; what is paid then is what is paid in the night. */
    private static void withoutIsThenSo() {
        String head = "dealer 9;dealer 3;dealer 0;dealer 1;lot 2;rate 777;buyin 0;mark 105;rule open*3-price;";
        FailDesk desk = Check.told(head + String.join("", SALES));
        for (int out = 0; out < SALES.length; out++) {
            StringBuilder text = new StringBuilder(head);
            for (int i = 0; i < SALES.length; i++) {
                text.append(i == out ? "" : SALES[i]);
            }
            FailDesk other = Check.told(text.toString());
            long foreseen = desk.without(out);
            CHECK.due("without(NONE) of a house without sale " + out, other.without(-1), foreseen);
            other.night();
            long paid = 0;
            for (int d = 0; d < 4; d++) {
                paid += other.dealer(d, 2);
            }
            CHECK.due("penalties of that house", paid, foreseen);
        }
    }

    /** "OPEN units of FAILS that one DEALER sells another one." */
    private static void between() {
        FailDesk desk = house();
        int[][] due = {{0, 2, 0}, {0, 0, 4}, {0, 0, 0}};
        for (int seller = 0; seller < 3; seller++) {
            for (int buyer = 0; buyer < 3; buyer++) {
                int a = seller;
                int b = buyer;
                CHECK.asked(desk, "between(" + a + ", " + b + ")", () -> desk.between(a, b), due[a][b]);
            }
        }
        for (int nobody : new int[] {-1, 3, 8, LOW, HIGH}) {
            CHECK.refused(desk, 0, "between(" + nobody + ", 0)", () -> desk.between(nobody, 0));
            CHECK.refused(desk, 0, "between(0, " + nobody + ")", () -> desk.between(0, nobody));
            CHECK.refused(desk, 0, "between(" + nobody + ", " + nobody + ")", () -> desk.between(nobody, nobody));
        }
    }

    /** "By its bits (as Double.doubleToLongBits); that of 0.0 without FAILS." */
    private static void mean() {
        FailDesk desk = Check.told(dealers(2) + "sale 0 1 7 3 1;");
        CHECK.asked(desk, "mean(), not due", desk::mean, Double.doubleToLongBits(0.0));
        desk.night();
        CHECK.asked(desk, "mean(), due", desk::mean, Double.doubleToLongBits(3.0));
        desk.buyin(0, 7);
        CHECK.asked(desk, "mean(), closed", desk::mean, Double.doubleToLongBits(0.0));
        for (int price : new int[] {1, 2, 3, 4, 5, 7, 8, 9, 1023, 1024, 1025, 8191, 8192, 8193, 9999, 10_000}) {
            FailDesk each = Check.told(dealers(2) + "sale 0 1 1000 " + price + " 0;");
            CHECK.due("mean() at " + price, each.mean(), Double.doubleToLongBits(price));
            each.sale(1, 0, 999, 1, 0);
            CHECK.due("mean() at " + price + " and 1", each.mean(), Double.doubleToLongBits((1000.0 * price + 999.0) / 1999.0));
            each.sale(1, 0, 1, 10_000, 0);
            CHECK.due("mean() at three", each.mean(), Double.doubleToLongBits((1000.0 * price + 10_999.0) / 2000.0));
        }
    }

    /** "CASH of the OUTSIDE": all that was paid for buy-ins, at the mark of then. */
    private static void outside() {
        FailDesk desk = Check.told("dealer 5;dealer 0;rate 999;mark 1;buyin 30;sale 0 1 1000 10000 0;");
        CHECK.due("outside() at first", desk.outside(), 0);
        desk.night();
        CHECK.due("outside(), a night without a buy-in", desk.outside(), 0);
        desk.buyin(0, 1);
        CHECK.due("outside() at the least mark", desk.outside(), 1);
        desk.mark(10_000);
        desk.buyin(0, 994);
        CHECK.asked(desk, "outside() at the greatest mark", desk::outside, 9_940_001L);
    }

    /** "Cash that sums to nought", however much it is. */
    private static void cashSumsToNought() {
        FailDesk desk = Check.told("dealer 9999;" + dealers(7) + "rate 999;mark 10000;buyin 1;lot 7;");
        for (int i = 0; i < 24; i++) {
            desk.sale(i % 8, (i * 3 + 1) % 8 == i % 8 ? (i + 1) % 8 : (i * 3 + 1) % 8, 1000 - i, 1 + i * 400, i % 4);
        }
        for (int n = 0; n < 12; n++) {
            desk.night();
            long sum = desk.outside();
            for (int d = 0; d < 8; d++) {
                sum += desk.dealer(d, 1);
            }
            CHECK.due("cash together behind night " + n, sum, 0);
        }
    }

    /** "From 0 on .. 31 times what there is, and STOCK, 31 times, and CASH; .. 31 times, and OPEN." */
    private static void print() {
        CHECK.due("print() of nothing", new FailDesk().print(), 0);
        CHECK.due("print() of one without stock", Check.told("dealer 0;").print(), 0);
        CHECK.due("print() of one", Check.told("dealer 7;").print(), 217);
        CHECK.due("print() of two", Check.told("dealer 7;dealer 1;").print(), 217L * 31 * 31 + 31);
        CHECK.due("print() of a sale", Check.told("dealer 7;dealer 1;sale 0 1 9 1 999;").print(), (217L * 31 * 31 + 31) * 31 + 9);
        FailDesk desk = house();
        long[] values = {0, 357, 0, 307, 6, -924, 2, 4, 0, 6, 0};
        long due = 0;
        for (long value : values) {
            due = 31 * due + value;
        }
        CHECK.asked(desk, "print()", desk::print, due);
        FailDesk full = Check.told("dealer 9999;".repeat(8));
        for (int i = 0; i < 24; i++) {
            full.sale(i % 8, (i + 1) % 8, 1000, 10_000, 0);
        }
        long wrapped = 0;
        for (int i = 0; i < 16; i++) {
            wrapped = 31 * wrapped + (i % 2 == 0 ? 9999 : 0);
        }
        for (int i = 0; i < 24; i++) {
            wrapped = 31 * wrapped + 1000;
        }
        CHECK.due("print() of the most there can be, wrapped", full.print(), wrapped);
    }

    /** "0 NoSuchElementException, 1 IllegalArgumentException, 2 IllegalStateException; NONE for others." */
    private static void status() {
        FailDesk desk = house();
        for (int what : new int[] {-1, 3, LOW, HIGH}) {
            CHECK.asked(desk, "status(" + what + ")", () -> desk.status(what), -1);
        }
        desk.undo();
        for (int i = 0; i < 3; i++) {
            CHECK.due("status(" + i + ") at first", desk.status(i), 0);
        }
        Check.tell(desk, "no such word");
        desk.ring(9);
        desk.status(9);
        for (int i = 0; i < 30; i++) {
            desk.feed(0, 0, 0, 0, 0);
        }
        for (int i = 0; i < 10; i++) {
            desk.undo();
        }
        for (int i = 0; i < 3; i++) {
            CHECK.due("status(" + i + "), NONE and faults are no refusals", desk.status(i), 0);
        }
        for (int i = 1; i <= 150; i++) {
            CHECK.missing("rule(-1)", () -> desk.rule(-1));
            CHECK.unfit("mark(0)", () -> desk.mark(0));
            CHECK.due("status(0) behind " + i, desk.status(0), i);
            CHECK.due("status(1) behind " + i, desk.status(1), i);
            CHECK.due("status(2) behind " + i, desk.status(2), 0);
        }
        CHECK.due("text() leaves it", desk.text(0), 0);
        CHECK.due("status(0) behind text()", desk.status(0), 150);
        desk.undo();
        CHECK.due("status(1) behind undo()", desk.status(1), 150);
    }

    /** "Asked, nothing stays changed", whatever was asked ahead. */
    private static void nothingStaysChanged() {
        FailDesk desk = Check.told(HOUSE);
        CHECK.same("all that can be asked", desk, Check.all(desk));
        desk.night();
        CHECK.same("all that can be asked behind a night", desk, Check.all(desk));
        desk.feed(1, 2, 3, 4, 5);
        CHECK.same("all that can be asked with a tape", desk, Check.all(desk));
        CHECK.due("night() as ever", desk.night(), 2);
        FailDesk quiet = Check.told(HOUSE);
        quiet.night();
        quiet.feed(1, 2, 3, 4, 5);
        quiet.night();
        CHECK.same("nights of one who was not asked", desk, Check.all(quiet));
    }
}
