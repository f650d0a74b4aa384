/** Promises 5 to 10: sales, stock and mark by hand, nights, buy-ins, all taken back. */
public final class ActsTest {
    private static final Check CHECK = new Check("ActsTest");

    public static void main(String[] args) {
        sale();
        stock();
        mark();
        ringsInLots();
        ringsAheadOfDelivery();
        delivery();
        deliveryInPasses();
        penalties();
        lateBuyIns();
        waitingBuyersDoNotBuyIn();
        orderAtTheBeginOfANight();
        standsByTheOrderAtTheBegin();
        nightsEnd();
        buyinDownAChain();
        buyinRoundARing();
        buyinByTwoWays();
        buyinPays();
        buyinRefused();
        undo();
        undoOfEachAct();
        CHECK.end();
    }

    private static String dealers(int n) {
        return "dealer 0;".repeat(n);
    }

    private static void open(FailDesk desk, String when, int... due) {
        for (int i = 0; i < due.length; i++) {
            CHECK.due("of(" + i + ", 5) " + when, desk.of(i, 5), due[i]);
        }
    }

    private static void cash(FailDesk desk, String when, long... due) {
        for (int i = 0; i < due.length; i++) {
            CHECK.due("dealer(" + i + ", 1) " + when, desk.dealer(i, 1), due[i]);
        }
    }

    private static void sale() {
        FailDesk desk = Check.told(dealers(3));
        CHECK.due("sale, the first", desk.sale(0, 1, 1, 1, 0), 0);
        CHECK.due("sale, the second", desk.sale(2, 0, 1000, 10000, 999), 1);
        int[] due = {2, 0, 1000, 10000, 999, 1000, 0, 0, 0};
        for (int i = 0; i < due.length; i++) {
            CHECK.due("of(1, " + i + ")", desk.of(1, i), due[i]);
        }
        CHECK.missing("sale(3, 0, ..)", () -> desk.sale(3, 0, 1, 1, 0));
        CHECK.missing("sale(-1, 0, ..)", () -> desk.sale(-1, 0, 1, 1, 0));
        CHECK.missing("sale(0, 3, ..)", () -> desk.sale(0, 3, 1, 1, 0));
        CHECK.missing("sale(0, -1, ..)", () -> desk.sale(0, -1, 1, 1, 0));
        CHECK.missing("sale(3, 3, 0, 0, -1)", () -> desk.sale(3, 3, 0, 0, -1));
        CHECK.unfit("sale(1, 1, ..)", () -> desk.sale(1, 1, 1, 1, 0));
        CHECK.unfit("sale of 0 units", () -> desk.sale(0, 1, 0, 1, 0));
        CHECK.unfit("sale of 1001 units", () -> desk.sale(0, 1, 1001, 1, 0));
        CHECK.unfit("sale at 0", () -> desk.sale(0, 1, 1, 0, 0));
        CHECK.unfit("sale at 10001", () -> desk.sale(0, 1, 1, 10001, 0));
        CHECK.unfit("sale due on -1", () -> desk.sale(0, 1, 1, 1, -1));
        CHECK.unfit("sale due on 1000", () -> desk.sale(0, 1, 1, 1, 1000));
        CHECK.due("told(1) behind refusals", desk.told(1), 2);
        CHECK.due("told(10) behind refusals", desk.told(10), 3);
        for (int i = 2; i < 24; i++) {
            CHECK.due("sale " + i, desk.sale(0, 1, 1, 1, 0), i);
        }
        CHECK.untimely("a 25th sale", () -> desk.sale(0, 1, 1, 1, 0));
        CHECK.unfit("a 25th sale of 0 units", () -> desk.sale(0, 1, 0, 1, 0));
        CHECK.missing("a 25th sale by nobody", () -> desk.sale(0, 9, 0, 1, 0));
    }

    private static void stock() {
        FailDesk desk = Check.told("dealer 5;dealer 6;");
        CHECK.due("stock(1, 100000)", desk.stock(1, 100_000), 6);
        CHECK.due("stock(1, 0)", desk.stock(1, 0), 100_000);
        CHECK.due("dealer(0, 0), another one", desk.dealer(0, 0), 5);
        CHECK.unfit("stock(0, -1)", () -> desk.stock(0, -1));
        CHECK.unfit("stock(0, 100001)", () -> desk.stock(0, 100_001));
        CHECK.missing("stock(2, 1)", () -> desk.stock(2, 1));
        CHECK.missing("stock(-1, 1)", () -> desk.stock(-1, 1));
        CHECK.missing("stock(2, -1)", () -> desk.stock(2, -1));
        CHECK.due("dealer(0, 0) behind refusals", desk.dealer(0, 0), 5);
        CHECK.due("told(10)", desk.told(10), 3);
    }

    private static void mark() {
        FailDesk desk = new FailDesk();
        CHECK.due("mark(1)", desk.mark(1), 100);
        CHECK.due("mark(10000)", desk.mark(10_000), 1);
        CHECK.unfit("mark(0)", () -> desk.mark(0));
        CHECK.unfit("mark(10001)", () -> desk.mark(10_001));
        CHECK.due("told(3)", desk.told(3), 10_000);
        CHECK.due("told(10)", desk.told(10), 2);
    }

    private static void ringsInLots() {
        FailDesk desk = Check.told(dealers(2) + "lot 5;sale 0 1 12 100 0;sale 1 0 9 90 0;");
        CHECK.due("ring(1)", desk.ring(1), 5);
        CHECK.due("night()", desk.night(), 2);
        open(desk, "behind a ring in lots", 7, 4);
        CHECK.due("of(0, 6)", desk.of(0, 6), 5);
        CHECK.due("of(1, 6)", desk.of(1, 6), 5);
        CHECK.due("of(0, 7)", desk.of(0, 7), 0);
        CHECK.due("dealer(0, 0), a ring needs no paper", desk.dealer(0, 0), 0);
        cash(desk, "behind a ring", 500 - 450, 450 - 500);
        FailDesk more = Check.told(dealers(2) + "sale 0 1 12 100 0;sale 1 0 9 90 0;sale 1 0 2 80 0;sale 1 0 9 70 1;");
        CHECK.due("night() of two rings", more.night(), 1);
        open(more, "behind two rings", 1, 0, 0, 9);
    }

    private static void ringsAheadOfDelivery() {
        FailDesk desk = Check.told("dealer 4;dealer 0;dealer 0;sale 0 2 4 10 0;sale 0 1 4 10 0;sale 1 0 4 10 0;");
        CHECK.due("night()", desk.night(), 0);
        CHECK.due("of(1, 6)", desk.of(1, 6), 4);
        CHECK.due("of(0, 7)", desk.of(0, 7), 4);
        CHECK.due("dealer(2, 0)", desk.dealer(2, 0), 4);
        CHECK.due("told(2)", desk.told(2), 1);
    }

    private static void delivery() {
        FailDesk desk = Check.told("dealer 9;dealer 0;lot 4;sale 0 1 10 7 0;");
        CHECK.due("night() in part", desk.night(), 1);
        open(desk, "in part by lots", 2);
        CHECK.due("of(0, 7)", desk.of(0, 7), 8);
        CHECK.due("dealer(0, 0)", desk.dealer(0, 0), 1);
        CHECK.due("dealer(1, 0)", desk.dealer(1, 0), 8);
        cash(desk, "behind delivery", 56, -56);
        CHECK.due("night(), less than a lot is there", desk.night(), 1);
        open(desk, "nothing delivered", 2);
        desk.stock(0, 2);
        CHECK.due("night(), less than a lot is open", desk.night(), 0);
        open(desk, "all delivered", 0);
        FailDesk later = Check.told("dealer 9;dealer 0;sale 0 1 5 7 1;");
        CHECK.due("night() ahead of its day", later.night(), 0);
        open(later, "ahead of its day", 5);
        later.night();
        open(later, "on its day", 0);
    }

    private static void deliveryInPasses() {
        FailDesk desk = Check.told("dealer 5;" + dealers(2) + "sale 1 2 5 10 0;sale 0 1 5 10 0;");
        CHECK.due("night(), what came is passed on", desk.night(), 0);
        CHECK.due("dealer(2, 0)", desk.dealer(2, 0), 5);
        FailDesk whole = Check.told("dealer 5;" + dealers(3) + "sale 1 2 5 10 0;sale 0 1 5 10 0;sale 1 3 5 10 0;");
        whole.night();
        open(whole, "a pass goes on to the last sale ahead of the next pass", 5, 0, 0);
        FailDesk ruled = Check.told("dealer 5;" + dealers(2) + "rule price;sale 0 1 5 10 0;sale 0 2 5 11 0;");
        ruled.night();
        open(ruled, "by the rule", 5, 0);
    }

    private static void penalties() {
        FailDesk desk = Check.told(dealers(3) + "rate 999;sale 0 1 7 123 0;sale 0 1 1 100 0;sale 1 2 1000 10000 0;");
        CHECK.due("night()", desk.night(), 3);
        CHECK.due("dealer(0, 2)", desk.dealer(0, 2), 7 * 123 * 999 / 100_000);
        CHECK.due("dealer(1, 3)", desk.dealer(1, 3), 8);
        CHECK.due("dealer(1, 2)", desk.dealer(1, 2), 99_900);
        CHECK.due("dealer(2, 3)", desk.dealer(2, 3), 99_900);
        CHECK.due("dealer(2, 2)", desk.dealer(2, 2), 0);
        cash(desk, "behind penalties", -8, 8 - 99_900, 99_900);
        FailDesk cut = Check.told(dealers(2) + "rate 1;sale 0 1 999 100 0;sale 0 1 999 100 0;sale 0 1 1000 100 0;");
        cut.night();
        CHECK.due("dealer(0, 2), each cut by itself", cut.dealer(0, 2), 1);
    }

    private static void lateBuyIns() {
        FailDesk desk = Check.told(dealers(3) + "buyin 2;mark 120;sale 0 1 10 100 0;sale 1 2 8 110 0;sale 0 2 3 130 1;");
        CHECK.due("first night()", desk.night(), 2);
        CHECK.due("second night()", desk.night(), 3);
        open(desk, "too early", 10, 8, 3);
        CHECK.due("third night()", desk.night(), 3);
        open(desk, "bought in", 2, 0, 3);
        CHECK.due("of(0, 8), passed down", desk.of(0, 8), 8);
        CHECK.due("of(1, 8)", desk.of(1, 8), 8);
        CHECK.due("dealer(2, 8)", desk.dealer(2, 8), 8);
        CHECK.due("dealer(1, 8)", desk.dealer(1, 8), 0);
        CHECK.due("outside()", desk.outside(), 8 * 120);
        FailDesk first = Check.told(dealers(2) + "buyin 0;sale 0 1 10 100 0;");
        CHECK.due("night() with buyin 0", first.night(), 1);
        open(first, "on its first night", 0);
    }

    private static void waitingBuyersDoNotBuyIn() {
        FailDesk desk = Check.told(dealers(3) + "buyin 1;sale 0 1 10 100 0;sale 1 2 8 100 1;");
        desk.night();
        open(desk, "the first night", 10, 8);
        CHECK.due("night(): its buyer sells what is asked, its own is not late", desk.night(), 2);
        open(desk, "both wait", 10, 8);
        desk.night();
        open(desk, "the last in the chain bought in", 2, 0);
        desk.night();
        open(desk, "the other, who waits for nobody now", 0, 0);
        CHECK.due("dealer(1, 8)", desk.dealer(1, 8), 2);
        FailDesk same = Check.told(dealers(3) + "buyin 0;rule price;sale 0 1 10 100 0;sale 1 2 8 110 0;");
        same.night();
        open(same, "in the same night, as its buyer is free behind the first", 0, 0);
        CHECK.due("dealer(1, 8) in the same night", same.dealer(1, 8), 2);
        FailDesk once = Check.told(dealers(3) + "buyin 0;sale 0 1 10 100 0;sale 1 2 8 110 0;");
        once.night();
        open(once, "sale by sale once", 2, 0);
    }

    private static void orderAtTheBeginOfANight() {
        FailDesk desk = Check.told("dealer 6;" + dealers(2) + "rule open;sale 0 1 10 1 0;sale 0 2 8 1 0;sale 1 0 5 1 0;");
        desk.night();
        open(desk, "by the order ahead of the ring", 0, 7, 0);
    }

    private static void standsByTheOrderAtTheBegin() {
        FailDesk desk = Check.told(dealers(4) + "buyin 1;rule open;sale 0 1 10 100 0;sale 3 1 8 100 1;sale 1 2 15 100 0;");
        desk.night();
        desk.stock(0, 5);
        CHECK.due("night()", desk.night(), 3);
        open(desk, "parts by the order at the begin", 0, 3, 0);
    }

    private static void nightsEnd() {
        FailDesk desk = Check.told(dealers(2) + "rate 999;buyin 30;sale 0 1 1000 10000 0;");
        for (int i = 0; i < 4999; i++) {
            desk.night();
        }
        desk.sale(0, 1, 1000, 10000, 999);
        desk.mark(200);
        CHECK.due("told(2)", desk.told(2), 4999);
        CHECK.due("foretold(1)", desk.foretold(1), 1000);
        CHECK.due("foretold(2), beyond", desk.foretold(2), 0);
        CHECK.due("without(-1)", desk.without(-1), 99_900);
        CHECK.due("the last night()", desk.night(), 1);
        CHECK.untimely("night() on day 5000", desk::night);
        desk.sale(0, 1, 1000, 10000, 999);
        CHECK.due("told(8) on day 5000", desk.told(8), 1000);
        CHECK.due("foretold(1) on day 5000", desk.foretold(1), 0);
        CHECK.due("without(-1) on day 5000", desk.without(-1), 0);
        CHECK.due("without(0) on day 5000", desk.without(0), 0);
        CHECK.missing("without(3) on day 5000", () -> desk.without(3));
        CHECK.due("status(2)", desk.status(2), 1);
        CHECK.due("told(2) stays", desk.told(2), 5000);
    }

    private static void buyinDownAChain() {
        FailDesk desk = Check.told(dealers(5) + "sale 2 3 10 100 0;sale 1 2 4 100 0;sale 4 2 9 100 0;sale 0 1 3 100 0;");
        CHECK.due("buyin(0, 6)", desk.buyin(0, 6), 4);
        open(desk, "from the first part on", 4, 0, 7, 0);
        CHECK.due("of(1, 8)", desk.of(1, 8), 4);
        CHECK.due("of(2, 8)", desk.of(2, 8), 2);
        CHECK.due("of(3, 8)", desk.of(3, 8), 3);
        CHECK.due("dealer(3, 0)", desk.dealer(3, 0), 6);
        CHECK.due("dealer(2, 0), nothing is bought further down", desk.dealer(2, 0), 0);
        CHECK.due("dealer(3, 8)", desk.dealer(3, 8), 6);
        CHECK.due("outside()", desk.outside(), 600);
        CHECK.due("buyin(0, 4), all that is open", desk.buyin(0, 4), 0);
        open(desk, "of what the sale stands on now", 0, 0, 3, 0);
    }

    private static void buyinRoundARing() {
        FailDesk desk = Check.told(dealers(3) + "sale 0 1 10 100 0;sale 1 2 10 110 0;sale 2 0 6 90 0;");
        CHECK.due("buyin(1, 8)", desk.buyin(1, 8), 2);
        open(desk, "round a ring, once", 2, 2, 0);
        FailDesk past = Check.told(dealers(4) + "sale 0 1 5 100 0;sale 1 0 5 100 0;sale 2 0 5 100 0;sale 1 3 5 100 1;rule -due;");
        CHECK.due("part(0, 0, 0)", past.part(0, 0, 0), 1);
        CHECK.due("part(1, 0, 0)", past.part(1, 0, 0), 0);
        CHECK.due("buyin(0, 5), the second has none but the first", past.buyin(0, 5), 0);
        open(past, "a part on a sale above is passed over", 0, 0, 5, 5);
    }

    private static void buyinByTwoWays() {
        FailDesk desk = Check.told(dealers(8) + "sale 4 5 10 9 0;sale 2 4 5 9 0;sale 3 4 5 9 0;sale 1 2 5 9 0;sale 1 3 5 9 0;"
                + "sale 0 1 10 9 0;sale 6 0 4 9 0;sale 7 0 6 9 0;");
        CHECK.due("parts(5)", desk.parts(5), 2);
        CHECK.due("buyin(0, 8)", desk.buyin(0, 8), 2);
        open(desk, "a part is gone down by its units once", 2, 0, 2, 0, 2, 2, 0, 2);
        CHECK.due("of(5, 8)", desk.of(5, 8), 8);
    }

    private static void buyinPays() {
        FailDesk desk = Check.told(dealers(3) + "mark 130;sale 0 1 10 100 0;sale 1 2 10 140 0;");
        desk.buyin(1, 7);
        cash(desk, "nothing is paid, if mark is not above price", -210, 210, -910);
        CHECK.due("dealer(0, 7)", desk.dealer(0, 7), 210);
        CHECK.due("dealer(1, 7)", desk.dealer(1, 7), 0);
        desk.mark(150);
        desk.buyin(1, 3);
        cash(desk, "at the new mark", -360, 330, -910 - 450 + 30);
        CHECK.due("dealer(1, 7)", desk.dealer(1, 7), 30);
        CHECK.due("outside()", desk.outside(), 910 + 450);
    }

    private static void buyinRefused() {
        FailDesk desk = Check.told(dealers(2) + "sale 0 1 10 100 0;sale 0 1 10 100 1;");
        CHECK.missing("buyin(2, 1)", () -> desk.buyin(2, 1));
        CHECK.missing("buyin(-1, 0)", () -> desk.buyin(-1, 0));
        CHECK.untimely("buyin(1, 1), not due", () -> desk.buyin(1, 1));
        CHECK.untimely("buyin(1, 0), not due", () -> desk.buyin(1, 0));
        CHECK.unfit("buyin(0, 0)", () -> desk.buyin(0, 0));
        CHECK.unfit("buyin(0, 11)", () -> desk.buyin(0, 11));
        CHECK.unfit("buyin(0, -1)", () -> desk.buyin(0, -1));
        CHECK.due("told(10)", desk.told(10), 1);
        CHECK.due("buyin(0, 10)", desk.buyin(0, 10), 0);
        CHECK.untimely("buyin(0, 1), nothing is open", () -> desk.buyin(0, 1));
        CHECK.due("status(0)", desk.status(0), 2);
        CHECK.due("status(1)", desk.status(1), 3);
        CHECK.due("status(2)", desk.status(2), 3);
    }

    private static void undo() {
        FailDesk desk = new FailDesk();
        for (int i = 1; i <= 10; i++) {
            desk.mark(i);
            CHECK.due("told(10) behind act " + i, desk.told(10), Math.min(i, 8));
        }
        for (int i = 1; i <= 3; i++) {
            CHECK.due("undo() " + i, desk.undo(), 8 - i);
            CHECK.due("told(3) taken back", desk.told(3), 10 - i);
        }
        desk.mark(50);
        CHECK.due("told(10), one more on those that are left", desk.told(10), 6);
        int[] marks = {7, 6, 5, 4, 3, 2};
        for (int i = 0; i < marks.length; i++) {
            CHECK.due("undo() again", desk.undo(), 5 - i);
            CHECK.due("told(3) taken back again", desk.told(3), marks[i]);
        }
        CHECK.due("undo(), none could", desk.undo(), -1);
        CHECK.due("told(3) stays", desk.told(3), 2);
        CHECK.due("told(10)", desk.told(10), 0);
    }

    private static void undoOfEachAct() {
        FailDesk desk = Check.told("dealer 3;dealer 4;rate 999;lot 2;buyin 3;mark 110;rule price;sale 0 1 30 100 0;sale 1 0 5 99 0;");
        desk.night();
        desk.buyin(0, 2);
        long[] ahead = everything(desk);
        desk.sale(1, 0, 4, 90, 0);
        back(desk, "sale()", ahead);
        desk.stock(1, 77);
        back(desk, "stock()", ahead);
        desk.mark(77);
        back(desk, "mark()", ahead);
        desk.night();
        long[] dayOne = everything(desk);
        desk.night();
        back(desk, "the second night()", dayOne);
        back(desk, "night()", ahead);
        desk.buyin(0, 5);
        back(desk, "buyin()", ahead);
        desk.text(0);
        back(desk, "text()", ahead);
        CHECK.unfit("mark(0)", () -> desk.mark(0));
        desk.undo();
        CHECK.due("status(1) is not taken back", desk.status(1), 1);
    }

    private static void back(FailDesk desk, String act, long[] due) {
        desk.undo();
        long[] got = everything(desk);
        for (int i = 0; i < due.length; i++) {
            CHECK.due("answer " + i + " behind " + act + " taken back", got[i], due[i]);
        }
    }

    private static long[] everything(FailDesk desk) {
        long[] all = new long[48];
        int n = 0;
        for (int i = 0; i <= 8; i++) {
            all[n++] = desk.told(i);
            all[n++] = desk.dealer(0, i);
            all[n++] = desk.dealer(1, i);
            all[n++] = desk.of(0, i);
            all[n++] = desk.of(1, i);
        }
        all[n++] = desk.rule(0);
        all[n++] = desk.outside();
        all[n] = desk.print();
        return all;
    }
}
