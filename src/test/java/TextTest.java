/** Promises 1 to 4 and 14: a new object, the tape, texts and their faults, what a rule gives. */
public final class TextTest {
    private static final Check CHECK = new Check("TextTest");
    private static final String TWO = "dealer 0;dealer 0;";

    public static void main(String[] args) {
        newObject();
        feed();
        textTellsAllAnew();
        textReadsTheFirstBytes();
        textWithAFaultChangesNothing();
        good();
        faultsOfWhatCanNotStandThere();
        faultsOfNumbers();
        faultsOfTooMany();
        faultsOfDepth();
        rules();
        CHECK.end();
    }

    private static void newObject() {
        FailDesk desk = new FailDesk();
        int[] due = {0, 0, 0, 100, 0, 1, 4, 0, 0, 0, 0};
        for (int i = 0; i < due.length; i++) {
            CHECK.due("told(" + i + ") of a new object", desk.told(i), due[i]);
        }
        CHECK.due("NONE", FailDesk.NONE, -1);
        CHECK.due("fault() ahead of any text", desk.fault(), -1);
        CHECK.due("print() of a new object", desk.print(), 0);
        CHECK.due("outside() of a new object", desk.outside(), 0);
        CHECK.due("mean() of a new object", desk.mean(), 0);
        CHECK.due("undo() of a new object", desk.undo(), -1);
        CHECK.due("ring(0) of a new object", desk.ring(0), -1);
        CHECK.due("night() of a new object", desk.night(), 0);
        CHECK.missing("dealer(0, 0) of a new object", () -> desk.dealer(0, 0));
        CHECK.missing("of(0, 0) of a new object", () -> desk.of(0, 0));
    }

    private static void feed() {
        FailDesk desk = new FailDesk();
        for (int i = 1; i <= 25; i++) {
            CHECK.due("feed " + i, desk.feed(0x20202020, 0x20202020, 0x20202020, 0x20202020, 0x20202020), 20 * i);
        }
        CHECK.due("feed 26", desk.feed(0, 0, 0, 0, 0), -1);
        CHECK.due("told(9) of a full tape", desk.told(9), 500);
        CHECK.due("text(500) of blanks", desk.text(500), 0);
        CHECK.due("told(9) behind text", desk.told(9), 0);
        desk.feed(0x6465616c, 0x65722037, 0x3b202020, 0x20202020, 0x202020ff);
        CHECK.due("text(19), the highest byte first", desk.text(19), 0);
        CHECK.due("stock told", desk.dealer(0, 0), 7);
        desk.feed(0x20202020, 0x20202020, 0x20202020, 0x20202020, 0x202020ff);
        CHECK.due("text(20) with a byte 255", desk.text(20), -9);
        CHECK.due("fault() at the byte 255", desk.fault(), 19);
        desk.feed(-1, -1, -1, -1, -1);
        CHECK.due("text(20) of bytes 255", desk.text(20), -9);
        CHECK.due("fault() at the first of them", desk.fault(), 0);
    }

    private static void textTellsAllAnew() {
        FailDesk desk = Check.told("dealer 9;dealer 8;lot 3;rate 900;buyin 0;mark 55;rule price;sale 0 1 20 50 0;");
        desk.night();
        desk.night();
        CHECK.due("told(2) ahead", desk.told(2), 2);
        CHECK.due("text of dealers alone", Check.tell(desk, TWO), 0);
        int[] due = {2, 0, 0, 100, 0, 1, 4, 0, 0, 0, 4};
        for (int i = 0; i < due.length; i++) {
            CHECK.due("told(" + i + ") told anew", desk.told(i), due[i]);
        }
        for (int i = 0; i <= 8; i++) {
            CHECK.due("dealer(0, " + i + ") told anew", desk.dealer(0, i), 0);
            CHECK.due("dealer(1, " + i + ") told anew", desk.dealer(1, i), 0);
        }
        CHECK.due("outside() told anew", desk.outside(), 0);
        desk.sale(0, 1, 5, 7, 0);
        CHECK.due("rule(0), the old rule is gone", desk.rule(0), 0);
        CHECK.due("rule told once more", Check.tell(desk, "rule 1+price;" + TWO + "sale 0 1 5 7 0;sale 1 0 5 7 0;"), 2);
        CHECK.due("rule(0)", desk.rule(0), 8);
        desk.night();
        CHECK.due("rule told a third time", Check.tell(desk, "rule 2*price;" + TWO), 0);
        desk.sale(0, 1, 5, 7, 0);
        CHECK.due("rule(0), anew", desk.rule(0), 14);
        CHECK.due("of(0, 6) of a sale told anew", desk.of(0, 6), 0);
        CHECK.due("of(0, 7) of a sale told anew", desk.of(0, 7), 0);
        CHECK.due("of(0, 8) of a sale told anew", desk.of(0, 8), 0);
    }

    private static void textReadsTheFirstBytes() {
        FailDesk desk = new FailDesk();
        Check.feed(desk, "dealer 1;dealer 2;dea".getBytes());
        CHECK.unfit("text(-1)", () -> desk.text(-1));
        CHECK.unfit("text(41)", () -> desk.text(41));
        CHECK.due("told(9), the tape stays", desk.told(9), 40);
        CHECK.due("fault() behind refusals", desk.fault(), -1);
        CHECK.due("text(9)", desk.text(9), 0);
        CHECK.due("dealers of the first 9 bytes", desk.told(0), 1);
        CHECK.due("told(9), all of it is empty", desk.told(9), 0);
        CHECK.due("text(0)", desk.text(0), 0);
        CHECK.due("dealers of no text", desk.told(0), 0);
        CHECK.due("text() is an act", desk.told(10), 2);
        CHECK.unfit("text(1) of an empty tape", () -> desk.text(1));
        CHECK.due("refusals", desk.status(1), 3);
    }

    private static void textWithAFaultChangesNothing() {
        FailDesk desk = Check.told(TWO + "rate 5;lot 6;buyin 7;mark 8;rule price;sale 0 1 2 3 4;");
        long print = desk.print();
        CHECK.due("text with a fault", Check.tell(desk, "dealer 5;rate 1;lot 2;buyin 3;mark 4;rule age;x"), -9);
        int[] due = {2, 1, 0, 8, 5, 6, 7, 0, 0, 0, 1};
        for (int i = 0; i < due.length; i++) {
            CHECK.due("told(" + i + ") behind a fault", desk.told(i), due[i]);
        }
        CHECK.due("print() behind a fault", desk.print(), print);
        CHECK.due("rule(0) behind a fault", desk.rule(0), 3);
        CHECK.due("fault()", desk.fault(), 46);
        CHECK.unfit("text(1)", () -> desk.text(1));
        CHECK.due("fault() stays, as text() threw", desk.fault(), 46);
        CHECK.due("undo() takes the text without a fault back", desk.undo(), 0);
        CHECK.due("fault() is of the latest text, taken back or not", desk.fault(), 46);
        CHECK.due("dealers taken back", desk.told(0), 0);
        CHECK.due("text(0)", desk.text(0), 0);
        CHECK.due("fault() without one", desk.fault(), -1);
        Check.feed(desk, new byte[20]);
        desk.undo();
        CHECK.due("told(9): undo() leaves the tape", desk.told(9), 20);
    }

    private static void good() {
        fine("", 0, 0);
        fine("   ", 0, 0);
        fine("dealer5;", 1, 0);
        fine("  dealer  0005  ;  ", 1, 0);
        fine("dealer 9999;rate 999;lot 100;buyin 30;mark 10000;rule 9999;", 1, 0);
        fine("rate 0;lot 1;buyin 0;mark 1;rule 0;dealer 0;", 1, 0);
        fine(TWO + "sale 0 1 1 1 0;sale 1 0 1000 10000 999;", 2, 2);
        fine(TWO.repeat(4), 8, 0);
        fine("dealer0;dealer0;" + "sale0 1 1 1 0;".repeat(24), 2, 24);
        fine("rule(price+ -age)*2-due;", 0, 0);
        FailDesk desk = Check.told("dealer0007;lot 10;rate 11;buyin 12;mark 13;");
        CHECK.due("stock 0007", desk.dealer(0, 0), 7);
        CHECK.due("mark told", desk.told(3), 13);
        CHECK.due("rate told", desk.told(4), 11);
        CHECK.due("lot told", desk.told(5), 10);
        CHECK.due("buyin told", desk.told(6), 12);
    }

    private static void fine(String text, int dealers, int sales) {
        FailDesk desk = new FailDesk();
        CHECK.due("text \"" + text + "\"", Check.tell(desk, text), sales);
        CHECK.due("fault() of \"" + text + "\"", desk.fault(), -1);
        CHECK.due("dealers of \"" + text + "\"", desk.told(0), dealers);
    }

    private static void bad(String text, int fault, int place) {
        FailDesk desk = new FailDesk();
        CHECK.due("text \"" + text + "\"", Check.tell(desk, text), fault - 10);
        CHECK.due("fault() of \"" + text + "\"", desk.fault(), place);
    }

    private static void faultsOfWhatCanNotStandThere() {
        bad(";", 1, 0);
        bad("7", 1, 0);
        bad("dealer", 1, 6);
        bad("dealer  ", 1, 8);
        bad("dealer 5", 1, 8);
        bad("dealer 5  ", 1, 10);
        bad("Dealer 1;", 1, 0);
        bad(" dealers 1;", 1, 1);
        bad("deale 1;", 1, 0);
        bad("dealer x;", 1, 7);
        bad("dealer 1 2;", 1, 9);
        bad("dealer -1;", 1, 7);
        bad("dealer 1;;", 1, 9);
        bad("dealer 1\t;", 1, 8);
        bad("age;", 1, 0);
        bad("rulez 1;", 1, 0);
        bad("xealer 1;", 1, 0);
        bad("dealex 1;", 1, 0);
        bad("rate 1;lot 1;mark 1;rate 1;", 1, 20);
        bad("rate 1;rate 2;", 1, 7);
        bad("lot 1;lot 1;", 1, 6);
        bad("buyin 1;buyin 1;", 1, 8);
        bad("mark 1;mark 1;", 1, 7);
        bad("rule 1;rule 1;", 1, 7);
        bad("rate 1;rate", 1, 7);
        bad(TWO + "sale 0 1 1 1;", 1, 30);
        bad(TWO + "sale 0 1 1 1 0 0;", 1, 33);
        bad("rule;", 1, 4);
        bad("rule", 1, 4);
        bad("rule 1+;", 1, 7);
        bad("rule 1 2;", 1, 7);
        bad("rule 1 age;", 1, 7);
        bad("rule (1;", 1, 7);
        bad("rule (1", 1, 7);
        bad("rule 1);", 1, 6);
        bad("rule ();", 1, 6);
        bad("rule x;", 1, 5);
        bad("rule ages;", 1, 5);
        bad("rule dealer;", 1, 5);
        bad("rule +1;", 1, 5);
        bad("rule 1**2;", 1, 7);
        bad("rule 1*;", 1, 7);
        bad("rule -;", 1, 6);
        bad("rule 1/2;", 1, 6);
    }

    private static void faultsOfNumbers() {
        bad("dealer 10000;", 2, 7);
        bad("dealer 10000", 2, 7);
        bad("dealer 99999999999999999999999;", 2, 7);
        bad("dealer 4294967296;", 2, 7);
        bad("rate 1000;", 2, 5);
        bad("lot 0;", 2, 4);
        bad("lot 101;", 2, 4);
        bad("buyin 31;", 2, 6);
        bad("mark 0;", 2, 5);
        bad("mark 10001;", 2, 5);
        bad("rule 10000;", 2, 5);
        bad("rule 1+10000x;", 2, 7);
        bad("sale 0 1 1 1 0;", 2, 5);
        bad("dealer 0;sale 0 1 1 1 0;dealer 0;", 2, 16);
        bad(TWO + "sale 2 1 1 1 0;", 2, 23);
        bad(TWO + "sale 0 2 1 1 0;", 2, 25);
        bad(TWO + "sale 0 0 1 1 0;", 2, 25);
        bad(TWO + "sale 1 1 0 1 0;", 2, 25);
        bad(TWO + "sale 0 1 0 1 0;", 2, 27);
        bad(TWO + "sale 0 1 1001 1 0;", 2, 27);
        bad(TWO + "sale 0 1 1 0 0;", 2, 29);
        bad(TWO + "sale 0 1 1 10001 0;", 2, 29);
        bad(TWO + "sale 0 1 1 1 1000;", 2, 31);
    }

    private static void faultsOfTooMany() {
        bad(TWO.repeat(4) + "dealer 0;", 3, 72);
        bad(TWO.repeat(4) + "  dealer x", 3, 74);
        bad("dealer0;dealer0;" + "sale0 1 1 1 0;".repeat(25), 3, 352);
        bad("dealer0;dealer0;" + "sale0 1 1 1 0;".repeat(24) + " sale", 3, 353);
        bad("dealer0;dealer0;" + "sale0 1 1 1 0;".repeat(24) + "sales", 1, 352);
    }

    private static void faultsOfDepth() {
        fine("rule -----1;", 0, 0);
        fine("rule (((((1)))));", 0, 0);
        fine("rule -(-(-1));", 0, 0);
        fine("rule -1-1-1-1-1-1-1-1;", 0, 0);
        fine("rule -1*-1*-1*-1*-1*-1*-1;", 0, 0);
        fine("rule (((((1)))))+(((((1)))));", 0, 0);
        fine("rule ((((-1-(1)))));", 0, 0);
        fine("rule -(1)*(1)*(1)*(1)*(1)*(1)*(1);", 0, 0);
        bad("rule ------1;", 4, 10);
        bad("rule ((((((1))))));", 4, 10);
        bad("rule -(-(-(1)));", 4, 10);
        bad("rule ((((-(1)))));", 4, 10);
        bad("rule ((((( -1)))));", 4, 11);
        bad("rule ((((((", 4, 10);
        bad("rule -----x;", 1, 10);
        bad("rule (((((1-(2))))));", 4, 12);
        bad("rule 1+-----2+------3;", 4, 19);
    }

    private static void rules() {
        worth("7", 7);
        worth("age", -3);
        worth("open", 8);
        worth("units", 8);
        worth("price", 9);
        worth("seller", 1);
        worth("buyer", 2);
        worth("due", 3);
        worth("1-2-3", -4);
        worth("2+3*4", 14);
        worth("2*3+4", 10);
        worth("(2+3)*4", 20);
        worth("2*(3-4)*5", -10);
        worth("-2*3+1", -5);
        worth("--5", 5);
        worth("2--3", 5);
        worth("-(price-due)*units", -48);
        worth("1-(2-(3-(4-(5-6))))", -3);
        worth("1+2*(3+4*(5+6*(7+8*(9+1*2))))", 1 + 2 * (3 + 4 * (5 + 6 * (7 + 8 * 11))));
        worth("1+2*(1+2*(1+2*(1+2*(1+2*(1+2*3)))))", 255);
        worth("1-2*-(1-2*-(1-2*3))", 1 + 2 * (1 + 2 * -5));
        long wrapped = 1;
        for (int i = 0; i < 7; i++) {
            wrapped *= 9999;
        }
        worth("9999*9999*9999*9999*9999*9999*9999", wrapped);
        worth("price" + "+price".repeat(40), 9 * 41);
        FailDesk desk = Check.told(TWO + "sale 0 1 8 9 3;rule units*100+open*10+age;");
        desk.stock(0, 0);
        CHECK.due("rule(0) ahead", desk.rule(0), 877);
        for (int i = 0; i < 3; i++) {
            desk.night();
        }
        CHECK.due("rule(0), age as it is now", desk.rule(0), 880);
        desk.buyin(0, 5);
        CHECK.due("rule(0), open as it is now", desk.rule(0), 830);
        CHECK.missing("rule(1)", () -> desk.rule(1));
        CHECK.missing("rule(-1)", () -> desk.rule(-1));
        CHECK.due("rule(0) without a rule", Check.told(TWO + "sale 0 1 8 9 3;").rule(0), 0);
    }

    private static void worth(String rule, long due) {
        FailDesk desk = Check.told("dealer 0;" + TWO + "sale 1 2 8 9 3;rule " + rule + ";");
        CHECK.due("rule(0) by \"" + rule + "\"", desk.rule(0), due);
    }
}
