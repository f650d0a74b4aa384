import java.util.ArrayList;
import java.util.List;

/** Each sentence of the document on sales, nights, buy-ins and what is taken back that names an edge (promises 5 to 10). */
public final class ActsEdgesTest {
    private static final Check CHECK = new Check("ActsEdgesTest");
    private static final int LOW = Integer.MIN_VALUE;
    private static final int HIGH = Integer.MAX_VALUE;

    public static void main(String[] args) {
        saleNumbers();
        saleOfANumberUsedAgain();
        saleRefusedForNobody();
        saleRefusedForNumbers();
        saleRefusedAsFull();
        saleBehindItsDay();
        stock();
        mark();
        ringOfALot();
        ringsAsLongAsThereIsOne();
        cashBelowNought();
        deliveryOfAllOrLots();
        deliveryNightByNight();
        deliveryOfDueAlone();
        deliveryAgainFromTheFirst();
        penaltiesCut();
        penaltiesOfWhatIsLeft();
        lateByAge();
        lateButSells();
        lateInOrder();
        nightOneMore();
        nightOnTheLastDay();
        buyinUnits();
        buyinRefused();
        buyinAtAnyAge();
        markAbovePrice();
        downTheParts();
        downNoMoreThanStand();
        downPastSalesAbove();
        acts();
        undoOfTheLatest8();
        undoAcross512Calls();
        undoRefusesNothing();
        CHECK.end();
    }

    private static String dealers(int n) {
        return "dealer 0;".repeat(n);
    }

    private static void open(FailDesk desk, String when, int... due) {
        for (int i = 0; i < due.length; i++) {
            CHECK.due("of(" + i + ", 5) " + when, desk.of(i, 5), due[i]);
        }
    }

    private static void stocks(FailDesk desk, String when, int... due) {
        for (int i = 0; i < due.length; i++) {
            CHECK.due("dealer(" + i + ", 0) " + when, desk.dealer(i, 0), due[i]);
        }
    }

    private static void cash(FailDesk desk, String when, long... due) {
        for (int i = 0; i < due.length; i++) {
            CHECK.due("dealer(" + i + ", 1) " + when, desk.dealer(i, 1), due[i]);
        }
    }

    /** "SALES (24 at most, numbered as they come)"; those of the text first. */
    private static void saleNumbers() {
        FailDesk desk = Check.told(dealers(8) + "sale 0 1 1 1 0;sale 1 2 1 1 0;");
        for (int i = 2; i < 24; i++) {
            CHECK.due("sale " + i, desk.sale(7, i % 7, 1000 - i, 10_000 - i, 999 - i), i);
            int[] due = {7, i % 7, 1000 - i, 10_000 - i, 999 - i, 1000 - i, 0, 0, 0};
            for (int what = 0; what < due.length; what++) {
                CHECK.due("of(" + i + ", " + what + ")", desk.of(i, what), due[what]);
            }
        }
        CHECK.due("told(1)", desk.told(1), 24);
        desk.undo();
        CHECK.due("the 24th again", desk.sale(0, 1, 1, 1, 0), 23);
    }

    /** A SALE whose number was another one's, taken back or told anew, begins with nothing settled. */
    private static void saleOfANumberUsedAgain() {
        FailDesk desk = Check.told("dealer 4;" + dealers(1) + "mark 150;");
        desk.sale(0, 1, 10, 100, 0);
        desk.sale(1, 0, 3, 100, 0);
        desk.night();
        desk.buyin(0, 2);
        int[] due = {1, 3, 4, 2};
        for (int i = 0; i < due.length; i++) {
            CHECK.due("of(0, " + (5 + i) + ")", desk.of(0, 5 + i), due[i]);
        }
        for (int i = 0; i < 4; i++) {
            desk.undo();
        }
        CHECK.due("sale 0 again", desk.sale(0, 1, 7, 100, 0), 0);
        int[] anew = {7, 0, 0, 0};
        for (int i = 0; i < anew.length; i++) {
            CHECK.due("of(0, " + (5 + i) + ") again", desk.of(0, 5 + i), anew[i]);
        }
        desk.night();
        desk.buyin(0, 1);
        Check.tell(desk, dealers(2));
        CHECK.due("sale 0 anew", desk.sale(0, 1, 7, 100, 0), 0);
        for (int i = 0; i < anew.length; i++) {
            CHECK.due("of(0, " + (5 + i) + ") anew", desk.of(0, 5 + i), anew[i]);
        }
    }

    private static void refusedSale(FailDesk desk, int reason, int... a) {
        String call = "sale(" + a[0] + ", " + a[1] + ", " + a[2] + ", " + a[3] + ", " + a[4] + ")";
        CHECK.refused(desk, reason, call, () -> desk.sale(a[0], a[1], a[2], a[3], a[4]));
    }

    /** "NoSuchElementException: no such DEALER", told first, so thrown ahead of the others. */
    private static void saleRefusedForNobody() {
        FailDesk desk = Check.told(dealers(3) + "sale 0 1 2 3 0;");
        for (int nobody : new int[] {-1, 3, 8, LOW, HIGH}) {
            refusedSale(desk, 0, nobody, 0, 1, 1, 0);
            refusedSale(desk, 0, 0, nobody, 1, 1, 0);
            refusedSale(desk, 0, nobody, nobody, 1, 1, 0);
            refusedSale(desk, 0, nobody, 1, 0, 0, -1);
            refusedSale(desk, 0, 1, nobody, 0, 0, -1);
        }
        FailDesk full = Check.told(dealers(8));
        CHECK.due("the eighth sells", full.sale(7, 0, 1, 1, 0), 0);
        CHECK.due("the eighth buys", full.sale(0, 7, 1, 1, 0), 1);
        refusedSale(full, 0, 8, 0, 1, 1, 0);
        refusedSale(full, 0, 0, 8, 1, 1, 0);
    }

    /** "IllegalArgumentException: the BUYER is the SELLER; UNITS, PRICE, DAY (a number that is none such)." */
    private static void saleRefusedForNumbers() {
        FailDesk desk = Check.told(dealers(3) + "sale 0 1 2 3 0;");
        for (int d = 0; d < 3; d++) {
            refusedSale(desk, 1, d, d, 1, 1, 0);
        }
        for (int units : new int[] {0, -1, 1001, LOW, HIGH}) {
            refusedSale(desk, 1, 0, 1, units, 1, 0);
        }
        for (int price : new int[] {0, -1, 10_001, LOW, HIGH}) {
            refusedSale(desk, 1, 0, 1, 1, price, 0);
        }
        for (int day : new int[] {-1, 1000, LOW, HIGH}) {
            refusedSale(desk, 1, 0, 1, 1, 1, day);
        }
        CHECK.due("the least of all", desk.sale(0, 1, 1, 1, 0), 1);
        CHECK.due("the greatest of all", desk.sale(0, 1, 1000, 10_000, 999), 2);
    }

    /** "IllegalStateException: there are 24", told last. */
    private static void saleRefusedAsFull() {
        FailDesk desk = Check.told(dealers(2));
        for (int i = 0; i < 23; i++) {
            desk.sale(0, 1, 1, 1, 0);
        }
        CHECK.due("the 24th", desk.sale(1, 0, 1, 1, 0), 23);
        refusedSale(desk, 2, 0, 1, 1, 1, 0);
        refusedSale(desk, 1, 0, 0, 1, 1, 0);
        refusedSale(desk, 1, 0, 1, 0, 1, 0);
        refusedSale(desk, 1, 0, 1, 1, 10_001, 0);
        refusedSale(desk, 1, 0, 1, 1, 1, 1000);
        refusedSale(desk, 0, 2, 0, 1, 1, 0);
        desk.night();
        refusedSale(desk, 2, 0, 1, 1, 1, 0);
    }

    /** A DAY of 0 to 999 may lie behind or ahead of today. */
    private static void saleBehindItsDay() {
        FailDesk desk = Check.told(dealers(2) + "rule age;");
        for (int i = 0; i < 3; i++) {
            desk.night();
        }
        int[] days = {0, 2, 3, 4, 999};
        for (int i = 0; i < days.length; i++) {
            desk.sale(0, 1, 1, 1, days[i]);
            CHECK.due("of(" + i + ", 10) due on " + days[i], desk.of(i, 10), days[i] <= 3 ? 1 : 0);
            CHECK.due("rule(" + i + "), its age", desk.rule(i), 3 - days[i]);
        }
    }

    /** "STOCK of a DEALER (0 to 100,000) by hand: what it was." */
    private static void stock() {
        FailDesk desk = Check.told("dealer 9999;dealer 0;sale 0 1 5 5 9;");
        for (int units : new int[] {-1, 100_001, LOW, HIGH}) {
            CHECK.refused(desk, 1, "stock(1, " + units + ")", () -> desk.stock(1, units));
        }
        for (int nobody : new int[] {-1, 2, 8, LOW, HIGH}) {
            CHECK.refused(desk, 0, "stock(" + nobody + ", 5)", () -> desk.stock(nobody, 5));
            CHECK.refused(desk, 0, "stock(" + nobody + ", -1)", () -> desk.stock(nobody, -1));
        }
        CHECK.due("stock(0, 100000)", desk.stock(0, 100_000), 9999);
        CHECK.due("stock(0, 0)", desk.stock(0, 0), 100_000);
        CHECK.due("stock(0, 1)", desk.stock(0, 1), 0);
        CHECK.due("stock(1, 1)", desk.stock(1, 1), 0);
        CHECK.due("stock(1, 1), the same", desk.stock(1, 1), 1);
        CHECK.due("told(10), each of them an act", desk.told(10), 6);
        FailDesk over = Check.told(dealers(2) + "sale 0 1 1000 1 0;");
        over.stock(0, 100_000);
        over.stock(1, 100_000);
        over.night();
        stocks(over, "above what is set by hand", 99_000, 101_000);
        CHECK.due("stock(1, 7), what it was", over.stock(1, 7), 101_000);
    }

    /** "MARK: what it was"; "MARK: today's price (1 to 10,000; 100 at first)". */
    private static void mark() {
        FailDesk desk = new FailDesk();
        for (int price : new int[] {0, -1, 10_001, LOW, HIGH}) {
            CHECK.refused(desk, 1, "mark(" + price + ")", () -> desk.mark(price));
        }
        CHECK.due("mark(10000)", desk.mark(10_000), 100);
        CHECK.due("mark(1)", desk.mark(1), 10_000);
        CHECK.due("mark(2)", desk.mark(2), 1);
        CHECK.due("told(3)", desk.told(3), 2);
        desk.night();
        CHECK.due("told(3), the next day", desk.told(3), 2);
    }

    /** "ASKED SALES with OPEN of LOT or more"; "RING UNITS: the least OPEN in it, cut to whole LOTS." */
    private static void ringOfALot() {
        int[][] cases = {{9, 10, 0}, {10, 10, 10}, {10, 11, 10}, {19, 20, 10}, {20, 20, 20}, {99, 500, 90}, {5, 5, 0}};
        for (int[] c : cases) {
            FailDesk desk = Check.told(dealers(2) + "lot 10;sale 0 1 " + c[0] + " 7 0;sale 1 0 " + c[1] + " 7 0;");
            String when = "of " + c[0] + " and " + c[1];
            CHECK.due("ring(1) " + when, desk.ring(1), c[2] == 0 ? -1 : c[2]);
            desk.night();
            CHECK.due("of(0, 6) " + when, desk.of(0, 6), c[2]);
            CHECK.due("of(1, 6) " + when, desk.of(1, 6), c[2]);
            CHECK.due("of(1, 5) " + when, desk.of(1, 5), c[1] - c[2]);
            stocks(desk, "without any paper", 0, 0);
        }
    }

    /** "(a) RINGS: as long as there is one." */
    private static void ringsAsLongAsThereIsOne() {
        FailDesk desk = Check.told(dealers(2) + "sale 0 1 1000 3 0;" + "sale 1 0 40 5 0;".repeat(20));
        desk.night();
        CHECK.due("of(0, 6)", desk.of(0, 6), 800);
        for (int i = 1; i <= 20; i++) {
            CHECK.due("of(" + i + ", 6)", desk.of(i, 6), 40);
        }
        cash(desk, "behind 20 rings", 800 * 3 - 800 * 5, 800 * 5 - 800 * 3);
        FailDesk both = Check.told(dealers(4) + "sale 0 1 5 1 0;sale 1 0 5 1 0;sale 2 3 6 1 0;sale 3 2 7 1 0;");
        CHECK.due("night() of two rings of others", both.night(), 1);
        open(both, "behind two rings of others", 0, 0, 0, 1);
        FailDesk twelve = Check.told(dealers(2));
        for (int i = 0; i < 24; i++) {
            twelve.sale(i % 2, 1 - i % 2, 1 + i / 2, 1, 0);
        }
        CHECK.due("night() of twelve rings", twelve.night(), 0);
    }

    /** "CASH below 0 is no matter." */
    private static void cashBelowNought() {
        FailDesk desk = Check.told("dealer 9999;dealer 0;");
        for (int i = 0; i < 9; i++) {
            desk.sale(0, 1, 1000, 10_000, 0);
        }
        CHECK.due("night()", desk.night(), 0);
        cash(desk, "behind nine great sales", 90_000_000L, -90_000_000L);
        stocks(desk, "behind nine great sales", 999, 9000);
    }

    /** "As much as is OPEN, or if there is less, that cut to whole LOTS." */
    private static void deliveryOfAllOrLots() {
        int[][] cases = {{0, 25, 0}, {9, 25, 0}, {10, 25, 10}, {19, 25, 10}, {20, 25, 20}, {24, 25, 20}, {25, 25, 25},
            {26, 25, 25}, {7, 7, 7}, {6, 7, 0}, {8, 7, 7}, {100_000, 1000, 1000}};
        for (int[] c : cases) {
            FailDesk desk = Check.told(dealers(2) + "lot 10;sale 0 1 " + c[1] + " 3 0;");
            desk.stock(0, c[0]);
            String when = "of " + c[0] + " for " + c[1];
            CHECK.due("night() " + when, desk.night(), c[1] == c[2] ? 0 : 1);
            CHECK.due("of(0, 7) " + when, desk.of(0, 7), c[2]);
            open(desk, when, c[1] - c[2]);
            stocks(desk, when, c[0] - c[2], c[2]);
            cash(desk, when, 3L * c[2], -3L * c[2]);
        }
        FailDesk hundred = Check.told("dealer 199;dealer 0;lot 100;sale 0 1 500 1 0;");
        hundred.night();
        open(hundred, "by the greatest lot", 400);
    }

    /** "6 units SETTLED in RINGS, 7 DELIVERED, 8 CLOSED", of all nights and buy-ins together. */
    private static void deliveryNightByNight() {
        FailDesk desk = Check.told(dealers(2) + "mark 150;buyin 30;sale 0 1 100 100 0;");
        int settled = 0;
        int delivered = 0;
        int closed = 0;
        for (int i = 1; i <= 5; i++) {
            desk.stock(0, i);
            desk.sale(1, 0, 2 * i, 100, 0);
            desk.night();
            desk.buyin(0, i);
            settled += 2 * i;
            delivered += i;
            closed += i;
            CHECK.due("of(0, 5) behind night " + i, desk.of(0, 5), 100 - settled - delivered - closed);
            CHECK.due("of(0, 6) behind night " + i, desk.of(0, 6), settled);
            CHECK.due("of(0, 7) behind night " + i, desk.of(0, 7), delivered);
            CHECK.due("of(0, 8) behind night " + i, desk.of(0, 8), closed);
            CHECK.due("dealer(0, 7) behind night " + i, desk.dealer(0, 7), 50L * closed);
            CHECK.due("dealer(1, 8) behind night " + i, desk.dealer(1, 8), closed);
        }
    }

    /** "If it is ASKED": due today or earlier, and OPEN above 0. */
    private static void deliveryOfDueAlone() {
        FailDesk desk = Check.told("dealer 50;dealer 0;sale 0 1 5 1 1;sale 0 1 5 1 0;sale 0 1 5 1 2;");
        int[][] due = {{5, 0, 5}, {0, 0, 5}, {0, 0, 0}, {0, 0, 0}};
        for (int i = 0; i < due.length; i++) {
            CHECK.due("night() " + i, desk.night(), 0);
            open(desk, "behind night " + i, due[i]);
        }
        stocks(desk, "all delivered once", 35, 15);
    }

    /** "Again from the first on, as long as some was": the paper goes down a row of eight in one night. */
    private static void deliveryAgainFromTheFirst() {
        FailDesk desk = Check.told("dealer 4;" + dealers(7) + "sale 6 7 4 1 0;sale 5 6 4 1 0;sale 4 5 4 1 0;sale 3 4 4 1 0;"
                + "sale 2 3 4 1 0;sale 1 2 4 1 0;sale 0 1 4 1 0;");
        CHECK.due("night() up a row", desk.night(), 0);
        stocks(desk, "up a row", 0, 0, 0, 0, 0, 0, 0, 4);
        FailDesk round = Check.told("dealer 1;dealer 0;lot 2;sale 0 1 1 5 0;sale 1 0 1 5 0;");
        CHECK.due("night(), one unit goes round, where there is no ring", round.night(), 0);
        stocks(round, "round", 1, 0);
        FailDesk first = Check.told("dealer 5;" + dealers(3) + "sale 1 2 3 1 0;sale 1 3 3 1 0;sale 0 1 5 1 0;");
        first.night();
        open(first, "the first in order first, in the next pass, too", 0, 1, 0);
    }

    /** "OPEN times PRICE times RATE by 100,000, cut, paid by the SELLER to the BUYER", of each by itself. */
    private static void penaltiesCut() {
        int[][] cases = {{271, 369, 1, 0}, {100, 1000, 1, 1}, {100, 1000, 0, 0}, {1000, 10_000, 999, 99_900}, {1, 1, 999, 0},
            {1, 101, 999, 1}, {1, 100, 999, 0}, {999, 200, 1, 1}, {1000, 200, 1, 2}};
        for (int[] c : cases) {
            FailDesk desk = Check.told(dealers(2) + "rate " + c[2] + ";sale 0 1 " + c[0] + " " + c[1] + " 0;");
            String when = "of " + c[0] + " at " + c[1] + " by " + c[2];
            CHECK.due("without(-1) " + when, desk.without(-1), c[3]);
            desk.night();
            CHECK.due("dealer(0, 2) " + when, desk.dealer(0, 2), c[3]);
            CHECK.due("dealer(1, 3) " + when, desk.dealer(1, 3), c[3]);
            CHECK.due("dealer(0, 3) " + when, desk.dealer(0, 3), 0);
            CHECK.due("dealer(1, 2) " + when, desk.dealer(1, 2), 0);
            cash(desk, when, -c[3], c[3]);
            desk.night();
            cash(desk, when + ", each night", -2L * c[3], 2L * c[3]);
        }
        FailDesk each = Check.told(dealers(2) + "rate 1;" + "sale 0 1 271 369 0;".repeat(8));
        each.night();
        CHECK.due("dealer(0, 2), each cut by itself", each.dealer(0, 2), 0);
    }

    /** "How many FAILS there were, as PENALTIES were paid": behind delivery, ahead of buy-ins. */
    private static void penaltiesOfWhatIsLeft() {
        FailDesk desk = Check.told("dealer 40;" + dealers(2) + "rate 100;buyin 0;sale 0 1 90 1000 0;sale 1 2 30 1000 0;sale 2 0 9 1 1;");
        CHECK.due("without(-1)", desk.without(-1), 50);
        CHECK.due("foretold(1)", desk.foretold(1), 50);
        CHECK.due("night(), of three one fails", desk.night(), 1);
        CHECK.due("dealer(0, 2)", desk.dealer(0, 2), 50);
        open(desk, "then it is bought in", 0, 0, 9);
        CHECK.due("told(7)", desk.told(7), 1);
    }

    /** "AGE is BUYIN or more." */
    private static void lateByAge() {
        for (int patience : new int[] {0, 1, 4, 30}) {
            for (int day : new int[] {0, 2}) {
                FailDesk desk = Check.told(dealers(2) + "buyin " + patience + ";sale 0 1 7 100 " + day + ";");
                for (int i = 0; i < day + patience; i++) {
                    desk.night();
                    open(desk, "behind night " + i + ", buyin " + patience, 7);
                }
                CHECK.due("the night of age " + patience, desk.night(), 1);
                open(desk, "behind that night", 0);
                CHECK.due("dealer(1, 8)", desk.dealer(1, 8), 7);
                CHECK.due("of(0, 8)", desk.of(0, 8), 7);
                stocks(desk, "bought in", 0, 7);
            }
        }
        FailDesk more = Check.told(dealers(2) + "buyin 1;");
        more.night();
        more.night();
        more.night();
        more.sale(0, 1, 7, 100, 0);
        more.night();
        open(more, "of an age above", 0);
    }

    /** "And its BUYER sells no ASKED SALE." */
    private static void lateButSells() {
        String late = dealers(3) + "buyin 0;sale 0 1 7 100 0;";
        FailDesk asked = Check.told(late + "sale 1 2 1 100 0;rule -price;");
        asked.night();
        open(asked, "the buyer sold one that was asked, the last buys in", 6, 0);
        FailDesk ahead = Check.told(late + "sale 1 2 1 100 1;");
        ahead.night();
        open(ahead, "the buyer sells one that is not due", 0, 1);
        FailDesk settled = Check.told("dealer 0;dealer 1;dealer 0;buyin 0;sale 0 1 7 100 0;sale 1 2 1 100 0;");
        settled.night();
        open(settled, "the buyer sold one that is delivered", 0, 0);
        FailDesk both = Check.told(dealers(2) + "buyin 0;lot 10;sale 0 1 7 100 0;sale 1 0 6 100 0;");
        both.night();
        open(both, "each waits for the other", 7, 6);
    }

    /** "(d) SALE by SALE in ORDER": what an earlier one closed is no more asked. */
    private static void lateInOrder() {
        String three = dealers(4) + "buyin 0;sale 0 1 7 100 0;sale 1 2 7 100 0;sale 2 3 7 100 0;";
        FailDesk desk = Check.told(three);
        CHECK.due("night()", desk.night(), 3);
        open(desk, "all closed by the last one's", 0, 0, 0);
        CHECK.due("dealer(3, 8)", desk.dealer(3, 8), 7);
        CHECK.due("dealer(2, 8)", desk.dealer(2, 8), 0);
        CHECK.due("dealer(1, 8)", desk.dealer(1, 8), 0);
        CHECK.due("outside()", desk.outside(), 700);
        FailDesk two = Check.told(dealers(3) + "buyin 0;rule price;sale 0 1 7 100 0;sale 0 1 5 110 0;sale 1 2 3 200 0;");
        two.night();
        open(two, "the last one's first, then both others", 0, 0, 0);
        CHECK.due("dealer(1, 8) of both others", two.dealer(1, 8), 9);
    }

    /** "Then DAY is one more." */
    private static void nightOneMore() {
        FailDesk desk = Check.told(dealers(2));
        for (int i = 1; i <= 500; i++) {
            CHECK.due("night()", desk.night(), 0);
            CHECK.due("told(2)", desk.told(2), i);
        }
    }

    /** "IllegalStateException: DAY is 5,000." */
    private static void nightOnTheLastDay() {
        FailDesk desk = Check.told(dealers(2) + "buyin 30;sale 0 1 5 100 999;");
        for (int i = 0; i < 4999; i++) {
            desk.night();
        }
        desk.sale(0, 1, 8, 100, 999);
        CHECK.due("told(2)", desk.told(2), 4999);
        CHECK.due("foretold(1) on day 4999", desk.foretold(1), 8);
        CHECK.due("foretold(2) on day 4999", desk.foretold(2), 0);
        CHECK.due("night() on day 4999", desk.night(), 1);
        desk.sale(0, 1, 9, 100, 999);
        CHECK.due("told(2), the last", desk.told(2), 5000);
        CHECK.refused(desk, 2, "night() on day 5000", desk::night);
        CHECK.refused(desk, 2, "night() on day 5000 again", desk::night);
        CHECK.due("foretold(1) on day 5000", desk.foretold(1), 0);
        CHECK.due("foretold(30) on day 5000", desk.foretold(30), 0);
        CHECK.due("without(-1) on day 5000", desk.without(-1), 0);
        CHECK.due("buyin(2, 9) on day 5000", desk.buyin(2, 9), 0);
        desk.undo();
        desk.undo();
        desk.undo();
        CHECK.due("night() taken back and done again", desk.night(), 1);
        CHECK.due("told(2) again", desk.told(2), 5000);
        CHECK.due("text() on day 5000", desk.text(0), 0);
        CHECK.due("told(2) told anew", desk.told(2), 0);
    }

    /** "BUY-IN of a SALE by units (OPEN at most)"; "what is OPEN of it then". */
    private static void buyinUnits() {
        FailDesk desk = Check.told(dealers(2) + "lot 100;sale 0 1 1000 100 0;");
        CHECK.due("buyin(0, 1)", desk.buyin(0, 1), 999);
        CHECK.due("buyin(0, 998), lots no matter", desk.buyin(0, 998), 1);
        CHECK.refused(desk, 1, "buyin(0, 2)", () -> desk.buyin(0, 2));
        CHECK.due("buyin(0, 1), the last", desk.buyin(0, 1), 0);
        stocks(desk, "all bought in", 0, 1000);
        CHECK.due("of(0, 8)", desk.of(0, 8), 1000);
        CHECK.due("dealer(1, 8)", desk.dealer(1, 8), 1000);
        CHECK.due("outside()", desk.outside(), 100_000);
        FailDesk one = Check.told(dealers(2) + "sale 0 1 1 1 0;");
        CHECK.refused(one, 1, "buyin(0, 2) of one", () -> one.buyin(0, 2));
        CHECK.due("buyin(0, 1) of one", one.buyin(0, 1), 0);
    }

    /** "IllegalArgumentException: units are below 1, or above OPEN. IllegalStateException (ahead of that): it is not ASKED." */
    private static void buyinRefused() {
        FailDesk desk = Check.told(dealers(2) + "sale 0 1 10 100 0;sale 0 1 10 100 1;sale 0 1 4 100 0;");
        desk.buyin(2, 4);
        for (int units : new int[] {0, -1, 11, LOW, HIGH}) {
            CHECK.refused(desk, 1, "buyin(0, " + units + ")", () -> desk.buyin(0, units));
        }
        for (int units : new int[] {1, 10, 0, 11, LOW, HIGH}) {
            CHECK.refused(desk, 2, "buyin(1, " + units + "), not due", () -> desk.buyin(1, units));
            CHECK.refused(desk, 2, "buyin(2, " + units + "), nothing is open", () -> desk.buyin(2, units));
        }
        for (int sale : new int[] {-1, 3, 24, LOW, HIGH}) {
            CHECK.refused(desk, 0, "buyin(" + sale + ", 1)", () -> desk.buyin(sale, 1));
            CHECK.refused(desk, 0, "buyin(" + sale + ", 0)", () -> desk.buyin(sale, 0));
        }
        desk.night();
        CHECK.due("buyin(1, 10), due now", desk.buyin(1, 10), 0);
    }

    /** "By hand, at any AGE", and whether its buyer sells something or not. */
    private static void buyinAtAnyAge() {
        FailDesk desk = Check.told(dealers(3) + "buyin 30;sale 0 1 10 100 0;sale 1 2 10 100 0;");
        CHECK.due("buyin(0, 4) at age 0, of one who sells", desk.buyin(0, 4), 6);
        open(desk, "who stands on it is not closed", 6, 10);
        stocks(desk, "bought in", 0, 4, 0);
        for (int i = 0; i < 29; i++) {
            desk.night();
        }
        CHECK.due("buyin(1, 1) at age 29", desk.buyin(1, 1), 5);
    }

    /** "By what MARK is above PRICE (nothing, if it is not)." */
    private static void markAbovePrice() {
        int[][] cases = {{100, 99, 0}, {100, 100, 0}, {100, 101, 1}, {1, 10_000, 9999}, {10_000, 1, 0}};
        for (int[] c : cases) {
            FailDesk desk = Check.told(dealers(2) + "mark " + c[1] + ";sale 0 1 10 " + c[0] + " 0;");
            desk.buyin(0, 6);
            String when = "at " + c[1] + ", sold at " + c[0];
            cash(desk, when, -6L * c[2], 6L * c[2] - 6L * c[1]);
            CHECK.due("dealer(0, 7) " + when, desk.dealer(0, 7), 6L * c[2]);
            CHECK.due("dealer(1, 7) " + when, desk.dealer(1, 7), 0);
            CHECK.due("outside() " + when, desk.outside(), 6L * c[1]);
        }
    }

    /** "Then these units go down the PARTS of the SALE .. from the first on", as far as there are some. */
    private static void downTheParts() {
        StringBuilder text = new StringBuilder(dealers(8) + "mark 110;");
        for (int i = 0; i < 7; i++) {
            text.append("sale ").append(6 - i).append(' ').append(7 - i).append(" 10 ").append(100 + i).append(" 0;");
        }
        FailDesk desk = Check.told(text.toString());
        CHECK.due("buyin(0, 10) down all seven", desk.buyin(0, 10), 0);
        for (int i = 0; i < 7; i++) {
            CHECK.due("of(" + i + ", 8)", desk.of(i, 8), 10);
            CHECK.due("dealer(" + (6 - i) + ", 7)", desk.dealer(6 - i, 7), 10 * (10 - i));
            stocks(desk, "nothing is bought below", 0, 0, 0, 0, 0, 0, 0, 10);
        }
        FailDesk split = Check.told(dealers(5) + "sale 2 3 10 9 0;sale 0 2 4 9 0;sale 1 2 4 9 0;sale 4 2 4 9 0;");
        split.buyin(0, 4);
        open(split, "the first part alone", 6, 0, 4, 4);
        split.undo();
        split.buyin(0, 5);
        open(split, "one of the second part", 5, 0, 3, 4);
        split.undo();
        split.buyin(0, 10);
        open(split, "all three parts, the last in part", 0, 0, 0, 2);
    }

    /** "Of each as many as are left, at most its units": what stands on none goes no further down. */
    private static void downNoMoreThanStand() {
        FailDesk desk = Check.told(dealers(4) + "sale 1 2 6 9 0;sale 1 3 6 9 0;sale 0 1 8 9 0;");
        CHECK.due("part(1, 0, 1)", desk.part(1, 0, 1), 2);
        desk.buyin(1, 6);
        open(desk, "by its own part of two alone", 6, 0, 6);
        desk.undo();
        desk.buyin(1, 1);
        open(desk, "by one", 6, 5, 7);
        desk.undo();
        desk.buyin(0, 6);
        open(desk, "the other one's part", 0, 6, 2);
        CHECK.due("part(1, 0, 1), the parts of then", desk.part(1, 0, 1), 2);
    }

    /** "A PART on a SALE that is CLOSED above on the same way down is passed over." */
    private static void downPastSalesAbove() {
        FailDesk desk = Check.told(dealers(4) + "sale 0 1 5 100 0;sale 1 0 5 100 0;sale 2 0 5 100 0;sale 0 3 5 100 0;");
        CHECK.due("part(0, 0, 0)", desk.part(0, 0, 0), 1);
        CHECK.due("part(3, 0, 0)", desk.part(3, 0, 0), 2);
        desk.buyin(0, 5);
        open(desk, "not round to the first again", 0, 0, 5, 5);
        FailDesk past = Check.told(dealers(4) + "sale 0 1 5 100 0;sale 1 2 9 100 0;sale 2 0 4 100 0;sale 3 0 4 100 0;sale 3 1 4 100 0;");
        CHECK.due("part(1, 0, 0)", past.part(1, 0, 0), 0);
        CHECK.due("part(1, 1, 0)", past.part(1, 1, 0), 4);
        CHECK.due("part(0, 0, 0), the one above", past.part(0, 0, 0), 2);
        CHECK.due("part(0, 1, 1), the next one", past.part(0, 1, 1), 1);
        past.buyin(2, 4);
        open(past, "the one above is passed over, the next one is not", 1, 5, 0, 3, 4);
        FailDesk over = Check.told(dealers(4) + "sale 0 1 5 100 0;sale 1 0 3 100 0;sale 2 0 2 100 0;sale 3 1 3 100 0;");
        CHECK.due("part(1, 0, 0)", over.part(1, 0, 0), 0);
        CHECK.due("parts(1)", over.parts(1), 1);
        over.buyin(0, 5);
        open(over, "passed over, and no other part is there", 0, 0, 0, 3);
    }

    private interface Act {
        void on(FailDesk desk);
    }

    /** "ACTS: text() without a FAULT, sale(), stock(), mark(), night(), buyin()." */
    private static void acts() {
        FailDesk desk = Check.told("dealer 3;" + dealers(1) + "rate 50;mark 120;sale 0 1 90 100 0;sale 1 0 20 90 0;");
        List<Act> acts = List.of(d -> d.text(0), d -> d.sale(1, 0, 5, 5, 0), d -> d.stock(1, 9), d -> d.mark(9),
                d -> d.night(), d -> d.buyin(0, 9), d -> d.stock(1, 0), d -> d.mark(120));
        for (int i = 0; i < acts.size(); i++) {
            List<Long> before = Check.all(desk);
            acts.get(i).on(desk);
            CHECK.due("told(10) behind act " + i, desk.told(10), 2);
            CHECK.due("undo() of act " + i, desk.undo(), 1);
            CHECK.same("undo() of act " + i, desk, before);
        }
        desk.feed(0, 0, 0, 0, 0);
        CHECK.due("told(10), feed() is no act", desk.told(10), 1);
        CHECK.due("text(20) with a fault", desk.text(20), -9);
        CHECK.due("told(10), a text with a fault is no act", desk.told(10), 1);
    }

    /** "undo() takes the latest one back that is not yet, of the latest 8"; "how many ACTS still can be .. behind it". */
    private static void undoOfTheLatest8() {
        FailDesk desk = Check.told("dealer 3;" + dealers(1) + "rate 50;mark 120;sale 0 1 90 100 0;sale 1 0 20 90 0;");
        List<List<Long>> houses = new ArrayList<>();
        for (int i = 0; i < 12; i++) {
            houses.add(withoutCount(desk));
            switch (i % 4) {
                case 0:
                    desk.night();
                    break;
                case 1:
                    desk.buyin(0, 3);
                    break;
                case 2:
                    desk.sale(1, 0, 4 + i, 90, 1);
                    break;
                default:
                    desk.stock(0, 10 + i);
            }
            CHECK.due("told(10) behind act " + i, desk.told(10), Math.min(8, i + 2));
        }
        for (int i = 0; i < 8; i++) {
            CHECK.due("undo() " + i, desk.undo(), 7 - i);
            CHECK.due("told(10) behind undo() " + i, desk.told(10), 7 - i);
            CHECK.due("all is as ahead of act " + (11 - i), withoutCount(desk).equals(houses.get(11 - i)) ? 1 : 0, 1);
        }
        CHECK.asked(desk, "undo(), none could", desk::undo, -1);
        CHECK.asked(desk, "undo(), none could, again", desk::undo, -1);
        desk.mark(7);
        CHECK.due("told(10), one again", desk.told(10), 1);
        CHECK.due("undo(), the only one", desk.undo(), 0);
        CHECK.asked(desk, "undo(), none is left", desk::undo, -1);
    }

    private static List<Long> withoutCount(FailDesk desk) {
        List<Long> all = Check.all(desk);
        all.set(10, 0L);
        return all;
    }

    /** "An object is used for at most 512 calls": the places of the latest 8 are used again and again. */
    private static void undoAcross512Calls() {
        FailDesk desk = new FailDesk();
        for (int i = 1; i <= 503; i++) {
            desk.mark(i);
        }
        for (int i = 1; i <= 8; i++) {
            CHECK.due("undo() " + i, desk.undo(), 8 - i);
        }
        CHECK.due("told(3), eight back", desk.told(3), 495);
        FailDesk turns = new FailDesk();
        for (int i = 1; i <= 250; i++) {
            turns.mark(i);
            CHECK.due("undo() in turn", turns.undo(), 0);
        }
        CHECK.due("told(3), all taken back in turn", turns.told(3), 100);
        CHECK.due("undo(), none is left", turns.undo(), -1);
    }

    /** status() is not taken back, and undo() is no call that is refused. */
    private static void undoRefusesNothing() {
        FailDesk desk = new FailDesk();
        CHECK.due("undo()", desk.undo(), -1);
        CHECK.unfit("mark(0)", () -> desk.mark(0));
        desk.mark(3);
        CHECK.unfit("mark(0)", () -> desk.mark(0));
        desk.undo();
        int[] due = {0, 2, 0};
        for (int i = 0; i < 3; i++) {
            CHECK.due("status(" + i + ")", desk.status(i), due[i]);
        }
    }
}
