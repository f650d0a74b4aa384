import java.math.BigInteger;
import java.nio.charset.StandardCharsets;
import java.util.List;

/** Each sentence of the document on a new object, the tape, texts and faults that names an edge (promises 1 to 4). */
public final class TextEdgesTest {
    private static final Check CHECK = new Check("TextEdgesTest");
    private static final String TWO = "dealer 0;dealer 0;";
    private static final String THREE = "dealer 0;" + TWO;
    private static final String EIGHT = TWO.repeat(4);
    private static final String SALES = "dealer0;dealer0;" + "sale0 1 1 1 0;".repeat(24);

    private interface Value {
        long of(FailDesk desk);
    }

    public static void main(String[] args) {
        noDealersNoSales();
        tapeUpTo500();
        tapeHighestFirst();
        textUpTo500();
        textOfFirstBytes();
        textRefused();
        textAnew();
        textWithFault();
        faultPlace();
        numbers();
        dealersToldAhead();
        onceEach();
        eightDealersAnd24Sales();
        untold();
        asManyAsStandThere();
        blanks();
        leastByteFirst();
        oneByteFirstInTheList();
        endsTooEarly();
        withinFiveOthers();
        longestRules();
        everyPrefix();
        everyByte();
        CHECK.end();
    }

    private static String blanks(int n) {
        return " ".repeat(n);
    }

    private static FailDesk fine(String text, int sales) {
        FailDesk desk = new FailDesk();
        CHECK.due("text \"" + text + "\"", Check.tell(desk, text), sales);
        CHECK.due("fault() of \"" + text + "\"", desk.fault(), -1);
        return desk;
    }

    private static void bad(String text, int fault, int place) {
        FailDesk desk = new FailDesk();
        CHECK.due("text \"" + text + "\"", Check.tell(desk, text), fault - 10);
        CHECK.due("fault() of \"" + text + "\"", desk.fault(), place);
    }

    private static void feed(FailDesk desk, String text) {
        Check.feed(desk, text.getBytes(StandardCharsets.ISO_8859_1));
    }

    /** "No DEALERS, no SALES." */
    private static void noDealersNoSales() {
        FailDesk desk = new FailDesk();
        CHECK.refused(desk, 0, "dealer(0, 0)", () -> desk.dealer(0, 0));
        CHECK.refused(desk, 0, "stock(0, 0)", () -> desk.stock(0, 0));
        CHECK.refused(desk, 0, "sale(0, 1, ..)", () -> desk.sale(0, 1, 1, 1, 0));
        CHECK.refused(desk, 0, "between(0, 0)", () -> desk.between(0, 0));
        CHECK.refused(desk, 0, "of(0, 5)", () -> desk.of(0, 5));
        CHECK.refused(desk, 0, "rule(0)", () -> desk.rule(0));
        CHECK.refused(desk, 0, "part(0, 0, 0)", () -> desk.part(0, 0, 0));
        CHECK.refused(desk, 0, "parts(0)", () -> desk.parts(0));
        CHECK.refused(desk, 0, "chain(0, 0)", () -> desk.chain(0, 0));
        CHECK.refused(desk, 0, "buyin(0, 1)", () -> desk.buyin(0, 1));
        CHECK.refused(desk, 0, "without(0)", () -> desk.without(0));
        CHECK.due("told(0)", desk.told(0), 0);
        CHECK.due("told(1)", desk.told(1), 0);
        CHECK.due("without(NONE)", desk.without(FailDesk.NONE), 0);
        CHECK.due("foretold(30)", desk.foretold(30), 0);
        CHECK.due("most(0)", desk.most(0), 0);
        CHECK.due("most(1)", desk.most(1), 0);
        CHECK.due("night()", desk.night(), 0);
        CHECK.due("told(2)", desk.told(2), 1);
    }

    /** "How many there are; NONE, doing nothing, if there would be more than 500." */
    private static void tapeUpTo500() {
        FailDesk desk = new FailDesk();
        byte[] bytes = ("dealer 7" + blanks(491) + ";").getBytes(StandardCharsets.ISO_8859_1);
        for (int i = 0; i < 500; i += 20) {
            CHECK.due("feed at " + i, desk.feed(Check.four(bytes, i), Check.four(bytes, i + 4), Check.four(bytes, i + 8),
                    Check.four(bytes, i + 12), Check.four(bytes, i + 16)), i + 20);
        }
        CHECK.asked(desk, "feed beyond 500", () -> desk.feed(-1, -1, -1, -1, -1), -1);
        CHECK.asked(desk, "feed beyond 500 again", () -> desk.feed(0, 0, 0, 0, 0), -1);
        CHECK.due("told(9)", desk.told(9), 500);
        CHECK.due("text(500), nothing of it was fed over", desk.text(500), 0);
        CHECK.due("dealer(0, 0)", desk.dealer(0, 0), 7);
        CHECK.due("told(9), empty", desk.told(9), 0);
        CHECK.due("feed on an empty tape", desk.feed(0, 0, 0, 0, 0), 20);
        for (int i = 0; i < 3; i++) {
            CHECK.due("status(" + i + "), no call was refused", desk.status(i), 0);
        }
    }

    /** "Twenty bytes come on the TAPE, of each number the highest first." */
    private static void tapeHighestFirst() {
        String text = "dealer 1;dealer 234;";
        for (int i = 0; i < 20; i++) {
            FailDesk desk = new FailDesk();
            byte[] bytes = text.getBytes(StandardCharsets.ISO_8859_1);
            bytes[i] = (byte) 200;
            Check.feed(desk, bytes);
            CHECK.due("text(20) with a byte 200 at " + i, desk.text(20), -9);
            CHECK.due("fault() with a byte 200 at " + i, desk.fault(), i < 6 ? 0 : i >= 9 && i < 15 ? 9 : i);
        }
        FailDesk desk = fine(text, 0);
        CHECK.due("dealer(0, 0)", desk.dealer(0, 0), 1);
        CHECK.due("dealer(1, 0)", desk.dealer(1, 0), 234);
    }

    /** "A TEXT has up to 500 bytes." */
    private static void textUpTo500() {
        fine("", 0);
        fine(" ", 0);
        fine(blanks(500), 0);
        CHECK.due("a number up to the end", fine("dealer " + "0".repeat(491) + "7;", 0).dealer(0, 0), 7);
        CHECK.due("a line at the end", fine(blanks(491) + "dealer 7;", 0).dealer(0, 0), 7);
        bad("dealer 7" + blanks(492), 1, 500);
        bad("dealer " + "0".repeat(493), 1, 500);
        bad(blanks(499) + "x", 1, 499);
        bad(blanks(494) + "dealer", 1, 500);
        bad("dealer 1" + "0".repeat(492), 2, 7);
        bad("x".repeat(500), 1, 0);
        bad(";".repeat(500), 1, 0);
        bad("9".repeat(500), 1, 0);
        bad("rule " + "(".repeat(495), 4, 10);
        bad("rule " + "-".repeat(495), 4, 10);
        bad("rule " + "1+".repeat(247) + "1", 1, 500);
    }

    /** "The first n bytes of the TAPE (all of it is empty then)." */
    private static void textOfFirstBytes() {
        FailDesk desk = new FailDesk();
        feed(desk, "dealer 5;dealer 6;dealer 7;");
        CHECK.due("text(9) of 40", desk.text(9), 0);
        CHECK.due("told(0)", desk.told(0), 1);
        CHECK.due("told(9), all of it is empty", desk.told(9), 0);
        feed(desk, "dealer 5;");
        CHECK.due("text(0) of 20", desk.text(0), 0);
        CHECK.due("told(0) of no bytes", desk.told(0), 0);
        CHECK.due("told(9), empty again", desk.told(9), 0);
        CHECK.due("text(0) of an empty tape", desk.text(0), 0);
        CHECK.due("told(10), each of them an act", desk.told(10), 3);
        feed(desk, "dealer 5;dealer 6;x");
        CHECK.due("text(19) with a fault", desk.text(19), -9);
        CHECK.due("told(9), empty behind a fault", desk.told(9), 0);
        feed(desk, "dealer 5;dealer 6;xx");
        CHECK.due("text(18), what is behind is not read", desk.text(18), 0);
        CHECK.due("told(0) of 18 bytes", desk.told(0), 2);
        feed(desk, "dealer 55;");
        CHECK.due("text(8), within a number", desk.text(8), -9);
        CHECK.due("fault(), where the text ends, not the tape", desk.fault(), 8);
        feed(desk, "dealer 5;          9");
        CHECK.due("text(20), all of the tape", desk.text(20), -9);
        CHECK.due("fault() at the last byte", desk.fault(), 19);
    }

    /** "IllegalArgumentException: n is not 0 to the TAPE's bytes (it stays)." */
    private static void textRefused() {
        FailDesk desk = new FailDesk();
        CHECK.refused(desk, 1, "text(1) of an empty tape", () -> desk.text(1));
        CHECK.refused(desk, 1, "text(-1) of an empty tape", () -> desk.text(-1));
        feed(desk, "dealer 5;dealer 6;  ");
        for (int n : new int[] {-1, 21, 500, Integer.MIN_VALUE, Integer.MAX_VALUE}) {
            CHECK.refused(desk, 1, "text(" + n + ") of 20", () -> desk.text(n));
        }
        CHECK.due("told(9), the tape stays", desk.told(9), 20);
        CHECK.due("text(20), what is on it stays", desk.text(20), 0);
        CHECK.due("dealer(1, 0)", desk.dealer(1, 0), 6);
    }

    /** "Tell all anew (DAY 0, CASH 0; MARK 100, if it is not told): how many SALES." */
    private static void textAnew() {
        FailDesk desk = Check.told("dealer 9;" + TWO + "rate 9;lot 2;buyin 0;mark 7;rule price;sale 0 1 20 50 0;sale 0 2 5 5 1;");
        desk.mark(55);
        desk.night();
        CHECK.due("text of nothing", desk.text(0), 0);
        int[] due = {0, 0, 0, 100, 0, 1, 4, 0, 0, 0, 4};
        for (int i = 0; i < due.length; i++) {
            CHECK.due("told(" + i + ") of a text of nothing", desk.told(i), due[i]);
        }
        CHECK.due("outside() anew", desk.outside(), 0);
        CHECK.due("print() anew", desk.print(), 0);
        CHECK.missing("dealer(0, 0), none is left", () -> desk.dealer(0, 0));
        CHECK.missing("of(0, 0), none is left", () -> desk.of(0, 0));
        CHECK.due("text of three sales", Check.tell(desk, TWO + "mark 101;sale 0 1 1 1 0;sale 0 1 2 1 0;sale 1 0 3 1 0;"), 3);
        CHECK.due("told(1)", desk.told(1), 3);
        CHECK.due("told(3), as told", desk.told(3), 101);
        desk.night();
        CHECK.due("text of one", Check.tell(desk, TWO + "sale 0 1 1 1 0;"), 1);
        CHECK.due("told(1) of one", desk.told(1), 1);
        CHECK.due("told(2), day 0", desk.told(2), 0);
        CHECK.due("told(3), not told", desk.told(3), 100);
        CHECK.due("dealer(0, 1), cash 0", desk.dealer(0, 1), 0);
        CHECK.due("dealer(1, 1), cash 0", desk.dealer(1, 1), 0);
        CHECK.due("of(0, 5), open anew", desk.of(0, 5), 1);
        CHECK.due("of(0, 6), not settled", desk.of(0, 6), 0);
    }

    /** "Or the FAULT less 10 (all but the TAPE stays)." */
    private static void textWithFault() {
        FailDesk desk = Check.told("dealer 9;" + TWO + "rate 9;lot 2;buyin 0;mark 7;rule price;sale 0 1 20 50 0;sale 0 2 5 5 1;");
        desk.night();
        Check.tell(desk, "dealer;");
        List<Long> before = Check.all(desk);
        String[] texts = {"dealer 5;lot;", "dealer 99999;", EIGHT + "dealer 0;", "rule ------1;"};
        int[] places = {12, 7, 72, 10};
        for (int i = 0; i < texts.length; i++) {
            CHECK.due("text with fault " + (i + 1), Check.tell(desk, texts[i]), i - 9);
            CHECK.due("fault() of fault " + (i + 1), desk.fault(), places[i]);
            CHECK.due("told(9) behind fault " + (i + 1), desk.told(9), 0);
            CHECK.due("told(10), a text with a fault is no act", desk.told(10), 2);
            Check.tell(desk, "dealer;");
            CHECK.same("a text with fault " + (i + 1), desk, before);
        }
    }

    /** "The place of the FAULT of the latest text() that threw nothing; NONE without one, and ahead of any." */
    private static void faultPlace() {
        FailDesk desk = new FailDesk();
        CHECK.due("fault() ahead of any", desk.fault(), -1);
        CHECK.unfit("text(1)", () -> desk.text(1));
        CHECK.due("fault() behind one that threw", desk.fault(), -1);
        Check.tell(desk, "x");
        CHECK.due("fault() at 0", desk.fault(), 0);
        CHECK.unfit("text(1)", () -> desk.text(1));
        CHECK.due("fault() of the latest that threw nothing", desk.fault(), 0);
        Check.tell(desk, "dealer");
        CHECK.due("fault() of a later one", desk.fault(), 6);
        Check.tell(desk, "dealer 1;");
        CHECK.due("fault() without one", desk.fault(), -1);
        CHECK.unfit("text(1)", () -> desk.text(1));
        CHECK.due("fault() without one, behind one that threw", desk.fault(), -1);
        Check.tell(desk, "dealer 1");
        CHECK.due("fault() at the length", desk.fault(), 8);
        desk.mark(5);
        desk.night();
        CHECK.due("fault() behind other acts", desk.fault(), 8);
    }

    /** Both ends of a number's range, one beyond each, numbers that would wrap into it, noughts ahead, no number. */
    private static void range(String before, int least, int most, String behind, Value value) {
        int sales = before.contains("sale") ? 1 : 0;
        for (int n : new int[] {least, most}) {
            CHECK.due("value of " + before + n + behind, value.of(fine(before + n + behind, sales)), n);
            String longer = before + "0".repeat(30) + n + behind;
            CHECK.due("value of " + longer, value.of(fine(longer, sales)), n);
        }
        if (least > 0) {
            bad(before + (least - 1) + behind, 2, before.length());
        }
        bad(before + (most + 1) + behind, 2, before.length());
        bad(before + "9".repeat(50) + behind, 2, before.length());
        for (int bits : new int[] {8, 16, 31, 32, 63, 64, 128}) {
            BigInteger wraps = BigInteger.ONE.shiftLeft(bits);
            bad(before + wraps.add(BigInteger.valueOf(most)) + behind, 2, before.length());
            bad(before + wraps.shiftLeft(20).add(BigInteger.valueOf(least)) + behind, 2, before.length());
        }
        bad(before + "x" + behind, 1, before.length());
        bad(before + ";" + behind, 1, before.length());
        bad(before, 1, before.length());
    }

    /** "dealer" N (STOCK, 0 to 9,999) and all other numbers of a text. */
    private static void numbers() {
        range("dealer ", 0, 9_999, ";", d -> d.dealer(0, 0));
        range("rate ", 0, 999, ";", d -> d.told(4));
        range("lot ", 1, 100, ";", d -> d.told(5));
        range("buyin ", 0, 30, ";", d -> d.told(6));
        range("mark ", 1, 10_000, ";", d -> d.told(3));
        range(THREE + "sale ", 0, 2, " 1 5 5 5;", d -> d.of(0, 0));
        range(THREE + "sale 1 ", 0, 2, " 5 5 5;", d -> d.of(0, 1));
        range(TWO + "sale 0 1 ", 1, 1_000, " 5 5;", d -> d.of(0, 2));
        range(TWO + "sale 0 1 5 ", 1, 10_000, " 5;", d -> d.of(0, 3));
        range(TWO + "sale 0 1 5 5 ", 0, 999, ";", d -> d.of(0, 4));
        String one = TWO + "sale 0 1 5 5 5;rule ";
        range(one, 0, 9_999, ";", d -> d.rule(0));
        range(one + "0+", 0, 9_999, ";", d -> d.rule(0));
        range(one + "1*", 0, 9_999, ";", d -> d.rule(0));
        range(one + "(", 0, 9_999, ");", d -> d.rule(0));
        range(one + "-", 0, 9_999, ";", d -> -d.rule(0));
        for (String line : new String[] {"dealer ", "rate ", "lot ", "buyin ", "mark ", TWO + "sale ", TWO + "sale 0 1 "}) {
            bad(line + "-1;", 1, line.length());
            bad(line + "(1);", 1, line.length());
            bad(line + "age;", 1, line.length());
        }
    }

    /** "A SELLER, BUYER that is not told ahead; a BUYER that is the SELLER." */
    private static void dealersToldAhead() {
        bad("sale 0 1 1 1 0;" + TWO, 2, 5);
        bad("dealer 0;sale 0 1 1 1 0;dealer 0;", 2, 16);
        bad("dealer 0;sale 1 0 1 1 0;dealer 0;", 2, 14);
        for (int i = 0; i < 8; i++) {
            bad(EIGHT + "sale " + i + " " + i + " 1 1 0;", 2, 79);
            int other = (i + 1) % 8;
            FailDesk desk = fine(EIGHT + "sale " + i + " " + other + " 1 1 0;", 1);
            CHECK.due("of(0, 0)", desk.of(0, 0), i);
            CHECK.due("of(0, 1)", desk.of(0, 1), other);
        }
        bad(EIGHT + "sale 8 0 1 1 0;", 2, 77);
        bad(EIGHT + "sale 0 8 1 1 0;", 2, 79);
        bad(EIGHT + "sale 8 8 1 1 0;", 2, 77);
        bad(EIGHT + "sale 0 00 1 1 0;", 2, 79);
    }

    /** "rate", "lot", "buyin", "mark", "rule" once each; "a second one of once, by its word". */
    private static void onceEach() {
        for (String word : new String[] {"rate", "lot", "buyin", "mark", "rule"}) {
            String first = word + " 1;";
            int place = first.length();
            bad(first + word + " 1;", 1, place);
            bad(first + word, 1, place);
            bad(first + "  " + word + " 99999;", 1, place + 2);
            bad(first + TWO + "sale 0 1 1 1 0;" + word + " 2;", 1, place + 33);
            bad(first + first + first, 1, place);
        }
        fine("rate 1;lot 1;buyin 1;mark 1;rule 1;", 0);
        fine("rule 1;mark 1;buyin 1;lot 1;rate 1;", 0);
        fine(TWO + "sale 0 1 1 1 0;rule 1;dealer 1;sale 2 1 1 1 0;mark 1;", 2);
    }

    /** "A ninth "dealer", a 25th "sale" (by its word)." */
    private static void eightDealersAnd24Sales() {
        CHECK.due("told(0) of eight", fine(EIGHT, 0).told(0), 8);
        CHECK.due("told(1) of 24", fine(SALES, 24).told(1), 24);
        bad(EIGHT + "dealer 0;", 3, 72);
        bad(EIGHT + "dealer", 3, 72);
        bad(EIGHT + "dealer 10000;", 3, 72);
        bad(EIGHT + "rate 1;   dealer 0;", 3, 82);
        bad(SALES + "sale 0 1 1 1 0;", 3, 352);
        bad(SALES + "sale", 3, 352);
        bad(SALES + "sale 0 0 0 0 1000;", 3, 352);
        bad(SALES + "lot 1;  sale 0 1 1 1 0;", 3, 360);
        CHECK.due("told(0), a third dealer behind 24 sales", fine(SALES + "dealer 1;", 24).told(0), 3);
    }

    /** "lot" 1 without, "buyin" 4 without, RATE 0 without, "without a rule all 0". */
    private static void untold() {
        FailDesk desk = Check.told("dealer 1;dealer 0;sale 0 1 3 10000 0;sale 0 1 3 1 0;");
        int[] due = {100, 0, 1, 4};
        for (int i = 0; i < due.length; i++) {
            CHECK.due("told(" + (3 + i) + ") without", desk.told(3 + i), due[i]);
        }
        CHECK.due("rule(1) without", desk.rule(1), 0);
        CHECK.due("night() 0", desk.night(), 2);
        CHECK.due("of(0, 5), a lot is one", desk.of(0, 5), 2);
        CHECK.due("dealer(0, 2), a rate is none", desk.dealer(0, 2), 0);
        for (int i = 1; i < 4; i++) {
            desk.night();
        }
        CHECK.due("told(8), age 4 is not reached", desk.told(8), 5);
        CHECK.due("night() 4", desk.night(), 2);
        CHECK.due("told(8), bought in at age 4", desk.told(8), 0);
    }

    /** "N: digits, as many as stand there; words: small letters, as many as stand there." */
    private static void asManyAsStandThere() {
        bad("dealerrate 1;", 1, 0);
        bad("dealer 1;ratelot 1;", 1, 9);
        bad("dea ler 1;", 1, 0);
        bad("deale", 1, 0);
        bad("rule ageopen;", 1, 5);
        bad("rule age open;", 1, 9);
        bad("rule 2age;", 1, 6);
        bad("rule age2;", 1, 8);
        bad("rule 12 3;", 1, 8);
        bad("ruleage;", 1, 0);
        bad(TWO + "sale01 1 1 0;", 2, 25);
        bad("dealeR 1;", 1, 0);
        bad("rule agE;", 1, 5);
        fine("dealer0001;", 0);
        fine("rule2*age;", 0);
        fine("rule(age);", 0);
        fine("rule-age;", 0);
        fine("lot1;rate1;buyin1;mark1;", 0);
        fine(TWO + "sale0 1 1 1 0;", 1);
    }

    /** "Blanks (32) may stand ahead of all words, numbers, signs, and at the end." */
    private static void blanks() {
        String[] tokens = ("dealer 5 ; dealer 6 ; rule ( age + - 2 ) * open - due ; sale 0 1 2 3 4 ; lot 2 ; rate 3 ; buyin 4 ; mark 5 ;")
                .split(" ");
        fine("  " + String.join("   ", tokens) + "  ", 1);
        fine("dealer5;dealer6;rule(age+-2)*open-due;sale0 1 2 3 4;lot2;rate3;buyin4;mark5;", 1);
        for (int sign = 0; sign < 256; sign++) {
            String s = String.valueOf((char) sign);
            boolean letter = sign >= 'a' && sign <= 'z';
            boolean digit = sign >= '0' && sign <= '9';
            if (sign != ' ') {
                bad(s + "dealer 5;", 1, 0);
                bad("dealer 5;" + s, 1, 9);
                bad("dealer 5;  " + s + " ", 1, 11);
            }
            if (sign != ' ' && !digit) {
                bad("dealer" + s + "5;", 1, letter ? 0 : 6);
                bad("dealer 5" + s + (sign == ';' ? ";" : "5;"), 1, sign == ';' ? 9 : 8);
            }
        }
    }

    /** "FAULTS; of several the one whose first byte is least." */
    private static void leastByteFirst() {
        bad("x;dealer 10000;", 1, 0);
        bad("dealer 10000;x", 2, 7);
        bad("dealer 10000", 2, 7);
        bad("rate 1;rate 1000;", 1, 7);
        bad("rate 1000;rate 1;", 2, 5);
        bad(EIGHT + "dealer 10000;x", 3, 72);
        bad(EIGHT + "rate 1000;dealer 0;", 2, 77);
        bad(EIGHT + "rate 1;dealer 0;rate 1;", 3, 79);
        bad("rule 10000*------1;", 2, 5);
        bad("rule ------10000;", 4, 10);
        bad("rule -----10000;", 2, 10);
        bad("rule ------", 4, 10);
        bad("rule x+------1;", 1, 5);
        bad(TWO + "sale 0 0 0 0 1000;", 2, 25);
        bad(TWO + "sale 0 1 1001 x", 2, 27);
    }

    /** "Of one byte the first in this list." */
    private static void oneByteFirstInTheList() {
        bad("dealer 5 10000;", 1, 9);
        bad("rule 1 10000;", 1, 7);
        bad("rule (1) 10000;", 1, 9);
        bad(TWO + "sale 0 1 1 1 0 1000;", 1, 33);
        bad("rule (((((1(2))))));", 1, 11);
        bad("rule (((((1)(2)))));", 1, 12);
        bad("dealer 0;".repeat(7) + "dealer 0 dealer 0;", 1, 72);
        bad(SALES.substring(0, SALES.length() - 1) + " sale 0 1 1 1 0;", 1, 352);
        bad("rule 1 rule 1;", 1, 7);
    }

    /** "At the length, if the text ends too early." */
    private static void endsTooEarly() {
        String[] lines = {"dealer 5", "rate 5", "lot 5", "buyin 5", "mark 5", "sale 0 1 2 3 4",
            "rule 1 + 2 * age", "rule ( 1 + 2 ) * ( age )", "rule - - 1", "rule ( - ( open ) ) - 5"};
        for (String line : lines) {
            for (int end = 1; end <= line.length(); end++) {
                if (end == line.length() || line.charAt(end) == ' ') {
                    String text = TWO + line.substring(0, end);
                    bad(text, 1, text.length());
                    bad(text + "    ", 1, text.length() + 4);
                }
            }
            fine(TWO + line + ";", line.startsWith("sale") ? 1 : 0);
        }
    }

    /** "A "(" or a "-" of F within five others of both (a "-" till its F ends)." */
    private static void withinFiveOthers() {
        String one = TWO + "sale 0 1 1 1 0;rule ";
        int at = one.length();
        for (int mix = 0; mix < 32; mix++) {
            StringBuilder open = new StringBuilder();
            StringBuilder close = new StringBuilder();
            for (int i = 0; i < 5; i++) {
                open.append((mix >> i & 1) == 0 ? "(" : "-");
                close.append((mix >> i & 1) == 0 ? ")" : "");
            }
            long due = Integer.bitCount(mix) % 2 == 0 ? 7 : -7;
            CHECK.due("rule(0) by " + open + "7" + close, fine(one + open + "7" + close + ";", 1).rule(0), due);
            CHECK.due("rule(0) of two", fine(one + open + "7" + close + "+" + open + "7" + close + ";", 1).rule(0), 2 * due);
            bad(one + open + "-7" + close + ";", 4, at + 5);
            bad(one + open + "(7)" + close + ";", 4, at + 5);
        }
        fine(one + "(((((1-1)))));", 1);
        bad(one + "(((((1--1)))));", 4, at + 7);
        bad(one + "(((((1*-1)))));", 4, at + 7);
        fine(one + "-1+(((((1)))));", 1);
        fine(one + "-(1)*(((((1)))));", 1);
        bad(one + "(-1*(((((1))))));", 4, at + 8);
        fine(one + "(-1*((((1)))));", 1);
        fine(one + "-((((1))))*(((((1)))));", 1);
        bad(one + "-(((((1)))))*1;", 4, at + 5);
        fine(one + "(1)*(1)*(1)*(1)*(1)*(1)*(1);", 1);
        fine(one + "-1*-1*-1*-1*-1*-1*-1;", 1);
    }

    /** "A TEXT has up to 500 bytes", of which a rule may be most; "longs that wrap". */
    private static void longestRules() {
        String one = "dealer0;dealer0;sale0 1 1 1 0;rule";
        CHECK.due("rule(0) of 232 ones", fine(one + "1+".repeat(231) + "1;", 1).rule(0), 232);
        CHECK.due("rule(0) of ones taken off", fine(one + "1-".repeat(231) + "1;", 1).rule(0), -230);
        CHECK.due("rule(0) of ones below nought", fine(one + "-1+".repeat(154) + "1;", 1).rule(0), -153);
        long wrapped = 1;
        for (int i = 0; i < 232; i++) {
            wrapped *= 3;
        }
        CHECK.due("rule(0) of threes", fine(one + "3*".repeat(231) + "3;", 1).rule(0), wrapped);
        String least = "8192*8192*8192*8192*2048";
        CHECK.due("the least long", fine(one + " " + least + ";", 1).rule(0), Long.MIN_VALUE);
        CHECK.due("the least long, below nought", fine(one + "-(" + least + ");", 1).rule(0), Long.MIN_VALUE);
        CHECK.due("the least long less one", fine(one + " " + least + "-1;", 1).rule(0), Long.MAX_VALUE);
        CHECK.due("the greatest long and one", fine(one + " " + least + "-1+1;", 1).rule(0), Long.MIN_VALUE);
        CHECK.due("the least long, twice", fine(one + " " + least + "+" + least + ";", 1).rule(0), 0);
    }

    private static void besideModel(FailDesk desk, String text) {
        Model model = new Model();
        model.tape.append(text);
        long due = model.text(text.length());
        CHECK.due("text \"" + text + "\"", Check.tell(desk, text), due);
        CHECK.due("fault() of \"" + text + "\"", desk.fault(), model.faultPlace);
        if (due >= 0) {
            for (int i = 0; i <= 8; i++) {
                CHECK.due("told(" + i + ") of \"" + text + "\"", desk.told(i), model.told(i));
            }
            for (int i = 0; i < due; i++) {
                CHECK.due("rule(" + i + ") of \"" + text + "\"", desk.rule(i), model.rule(i));
            }
            CHECK.due("print() of \"" + text + "\"", desk.print(), model.print());
        }
    }

    private static final String OF_ALL = "dealer 5; dealer 60;rate 7;lot 8 ;buyin 9;mark 10;rule (age+2)*-open-price*units+seller;"
            + "sale 0 1 20 30 4;sale 1 0 9 99 0; ";

    private static void everyPrefix() {
        for (int n = 0; n <= OF_ALL.length(); n++) {
            besideModel(new FailDesk(), OF_ALL.substring(0, n));
        }
    }

    private static void everyByte() {
        for (int i = 0; i < OF_ALL.length(); i++) {
            FailDesk desk = new FailDesk();
            for (int sign = 0; sign < 256; sign++) {
                besideModel(desk, OF_ALL.substring(0, i) + (char) sign + OF_ALL.substring(i + 1));
            }
            besideModel(desk, OF_ALL.substring(0, i) + OF_ALL.substring(i + 1));
        }
    }
}
