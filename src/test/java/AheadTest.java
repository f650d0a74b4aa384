import java.util.Random;

/** Promises 19 to 21: the most at once, nights foretold, a sale left out. */
public final class AheadTest {
    private static final Check CHECK = new Check("AheadTest");

    public static void main(String[] args) {
        most();
        mostTried();
        mostBesideTheModel();
        foretold();
        without();
        nothingStaysChanged();
        CHECK.end();
    }

    private static String dealers(int n) {
        return "dealer 0;".repeat(n);
    }

    private static void both(String text, long units, long byPrice) {
        FailDesk desk = Check.told(text);
        CHECK.due("most(0) of " + text, desk.most(0), units);
        CHECK.due("most(1) of " + text, desk.most(1), byPrice);
    }

    private static void most() {
        both(dealers(2), 0, 0);
        both(dealers(2) + "sale 0 1 5 9 0;", 0, 0);
        both("dealer 3;dealer 0;sale 0 1 5 9 0;", 3, 27);
        both("dealer 3;dealer 0;sale 0 1 5 9 1;", 0, 0);
        both("dealer 3;dealer 0;lot 100;sale 0 1 5 9 0;", 3, 27);
        both(dealers(2) + "sale 0 1 5 9 0;sale 1 0 4 7 0;", 8, 64);
        both("dealer 3;" + dealers(3) + "sale 0 1 5 1 0;sale 1 2 5 1 0;sale 2 3 5 1 0;sale 0 3 5 9 0;", 9, 27);
        both("dealer 3;" + dealers(3) + "sale 0 1 5 1 0;sale 1 2 5 1 0;sale 2 3 5 1 0;sale 0 3 5 2 0;", 9, 9);
        both("dealer 3;" + dealers(3) + "sale 0 1 2 1 0;sale 1 2 5 1 0;sale 2 3 5 1 0;sale 0 3 5 9 0;", 7, 27);
        both("dealer 1;dealer 2;dealer 0;sale 0 2 1000 10000 0;sale 1 2 1000 1 0;sale 2 0 1000 3 0;", 2002, 10_003_002L);
        FailDesk desk = Check.told(dealers(2));
        CHECK.unfit("most(-1)", () -> desk.most(-1));
        CHECK.unfit("most(2)", () -> desk.most(2));
    }

    /** Small houses, of which all ways to settle are tried. */
    private static void mostTried() {
        Random random = new Random(7);
        for (int run = 0; run < 600; run++) {
            int dealers = 2 + random.nextInt(4);
            int[] stock = new int[dealers];
            StringBuilder text = new StringBuilder();
            for (int i = 0; i < dealers; i++) {
                stock[i] = random.nextInt(3);
                text.append("dealer ").append(stock[i]).append(';');
            }
            int[][] sales = new int[2 + random.nextInt(6)][];
            for (int i = 0; i < sales.length; i++) {
                int seller = random.nextInt(dealers);
                int buyer = (seller + 1 + random.nextInt(dealers - 1)) % dealers;
                sales[i] = new int[] {seller, buyer, 1 + random.nextInt(3), 1 + random.nextInt(9)};
                text.append("sale ").append(seller).append(' ').append(buyer).append(' ').append(sales[i][2])
                        .append(' ').append(sales[i][3]).append(" 0;");
            }
            both(text.toString(), tried(stock, sales, 0, false), tried(stock, sales, 0, true));
        }
    }

    /** Houses with as many sales as there can be, in which what was given up for one is given to another. */
    private static void mostBesideTheModel() {
        Random random = new Random(11);
        for (int run = 0; run < 800; run++) {
            FailDesk desk = new FailDesk();
            Model model = new Model();
            int dealers = 4 + random.nextInt(5);
            StringBuilder text = new StringBuilder();
            for (int i = 0; i < dealers; i++) {
                text.append("dealer ").append(random.nextInt(3) * random.nextInt(40)).append(';');
            }
            Check.tell(desk, text.toString());
            model.tape.append(text);
            model.text(text.length());
            int sales = 6 + random.nextInt(19);
            for (int i = 0; i < sales; i++) {
                int seller = random.nextInt(dealers);
                int buyer = (seller + 1 + random.nextInt(dealers - 1)) % dealers;
                int units = 1 + random.nextInt(run % 2 == 0 ? 9 : 100);
                int price = 1 + random.nextInt(run % 3 == 0 ? 5 : 1000);
                desk.sale(seller, buyer, units, price, 0);
                model.sale(seller, buyer, units, price, 0);
            }
            CHECK.due("most(0) of house " + run, desk.most(0), model.most(0));
            CHECK.due("most(1) of house " + run, desk.most(1), model.most(1));
        }
    }

    private static long tried(int[] left, int[][] sales, int from, boolean byPrice) {
        if (from == sales.length) {
            for (int units : left) {
                if (units < 0) {
                    return Long.MIN_VALUE / 2;
                }
            }
            return 0;
        }
        long best = Long.MIN_VALUE / 2;
        int[] sale = sales[from];
        for (int units = 0; units <= sale[2]; units++) {
            int[] then = left.clone();
            then[sale[0]] -= units;
            then[sale[1]] += units;
            best = Math.max(best, units * (byPrice ? sale[3] : 1) + tried(then, sales, from + 1, byPrice));
        }
        return best;
    }

    private static void foretold() {
        FailDesk desk = Check.told("dealer 4;" + dealers(2) + "buyin 3;sale 0 1 10 100 0;sale 1 2 7 100 1;sale 2 0 2 90 2;");
        int[] due = {6, 9, 5, 5, 5, 3, 0};
        for (int i = 0; i < due.length; i++) {
            CHECK.due("foretold(" + (i + 1) + ")", desk.foretold(i + 1), due[i]);
        }
        CHECK.due("foretold(30)", desk.foretold(30), 0);
        CHECK.unfit("foretold(0)", () -> desk.foretold(0));
        CHECK.unfit("foretold(31)", () -> desk.foretold(31));
        CHECK.unfit("foretold(-1)", () -> desk.foretold(-1));
        desk.night();
        CHECK.due("foretold(1) one night on", desk.foretold(1), 9);
        CHECK.due("told(2)", desk.told(2), 1);
    }

    private static void without() {
        FailDesk desk = Check.told("dealer 5;" + dealers(2) + "rate 999;sale 0 1 5 1000 0;sale 0 2 5 900 0;sale 1 2 9 100 0;sale 1 2 9 100 1;");
        CHECK.due("without(-1)", desk.without(-1), 44 + 3);
        CHECK.due("without(0), what it would have had goes on to another", desk.without(0), 8);
        CHECK.due("without(1)", desk.without(1), 3);
        CHECK.due("without(2)", desk.without(2), 44);
        CHECK.due("without(3), not due", desk.without(3), 47);
        CHECK.missing("without(4)", () -> desk.without(4));
        CHECK.missing("without(-2)", () -> desk.without(-2));
        FailDesk ring = Check.told(dealers(2) + "rate 999;sale 0 1 5 1000 0;sale 1 0 5 1000 0;");
        CHECK.due("without(-1) of a ring", ring.without(-1), 0);
        CHECK.due("without(0) of a ring", ring.without(0), 49);
    }

    private static void nothingStaysChanged() {
        FailDesk desk = Check.told("dealer 4;" + dealers(2) + "buyin 0;rate 999;sale 0 1 10 100 0;sale 1 2 7 100 0;sale 2 0 2 90 0;");
        long print = desk.print();
        desk.foretold(30);
        desk.without(-1);
        desk.without(1);
        desk.most(0);
        desk.most(1);
        desk.ring(1);
        desk.chain(1, 1);
        CHECK.due("print()", desk.print(), print);
        CHECK.due("told(2)", desk.told(2), 0);
        CHECK.due("told(10)", desk.told(10), 1);
        CHECK.due("outside()", desk.outside(), 0);
        CHECK.due("dealer(0, 2)", desk.dealer(0, 2), 0);
        CHECK.due("of(1, 5)", desk.of(1, 5), 7);
    }
}
