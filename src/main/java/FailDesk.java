import java.util.Arrays;
import java.util.NoSuchElementException;

/** Dealers in one paper who pass their fails on; the words used here are those of the document. */
public final class FailDesk {
    public static final int NONE = -1;

    private static final int MOST_DEALERS = 8;
    private static final int MOST_SALES = 24;
    private static final int MOST_BYTES = 500;
    private static final int MOST_ACTS = 8;
    private static final int LAST_DAY = 5_000;
    private static final int MOST_UNITS = 1_000;
    private static final int MOST_PRICE = 10_000;
    private static final int MOST_DUE = 999;
    private static final int MOST_STOCK_BY_HAND = 100_000;
    private static final int MOST_NIGHTS_FORETOLD = 30;

    private static final int MISSING = 0;
    private static final int UNFIT = 1;
    private static final int UNTIMELY = 2;

    private final Reader reader = new Reader();
    private final History history = new History();
    private final House now = new House();
    private final House imagined = new House();
    private final Order order = new Order();
    private final Parts chains = new Parts();
    private final Ring circle = new Ring();
    private final Most greatest = new Most();
    private final Night dusk = new Night();
    private final int[] refusals = new int[3];
    private int faultPlace = NONE;

    public FailDesk() {
    }

    public int feed(int a, int b, int c, int d, int e) {
        if (reader.bytes + 20 > MOST_BYTES) {
            return NONE;
        }
        reader.put(a);
        reader.put(b);
        reader.put(c);
        reader.put(d);
        reader.put(e);
        return reader.bytes;
    }

    public int text(int n) throws IllegalArgumentException {
        needWithin(n, 0, reader.bytes);
        reader.readTape(n);
        faultPlace = reader.faultPlace;
        if (reader.fault != 0) {
            return reader.fault - 10;
        }
        history.keep(now);
        now.copyFrom(reader.house);
        return now.sales;
    }

    public int fault() {
        return faultPlace;
    }

    public int sale(int seller, int buyer, int units, int price, int day)
            throws NoSuchElementException, IllegalArgumentException, IllegalStateException {
        needDealer(seller);
        needDealer(buyer);
        if (seller == buyer) {
            refuseUnfit();
        }
        needWithin(units, 1, MOST_UNITS);
        needWithin(price, 1, MOST_PRICE);
        needWithin(day, 0, MOST_DUE);
        if (now.sales >= MOST_SALES) {
            refuseUntimely();
        }
        history.keep(now);
        now.addSale(seller, buyer, units, price, day);
        return now.sales - 1;
    }

    public int stock(int dealer, int units) throws NoSuchElementException, IllegalArgumentException {
        needDealer(dealer);
        needWithin(units, 0, MOST_STOCK_BY_HAND);
        history.keep(now);
        int before = now.dealer[dealer].stock;
        now.dealer[dealer].stock = units;
        return before;
    }

    public int mark(int price) throws IllegalArgumentException {
        needWithin(price, 1, MOST_PRICE);
        history.keep(now);
        int before = now.mark;
        now.mark = price;
        return before;
    }

    public int night() throws IllegalStateException {
        if (now.day >= LAST_DAY) {
            refuseUntimely();
        }
        history.keep(now);
        dusk.pass(now);
        return dusk.fails;
    }

    public int buyin(int sale, int units)
            throws NoSuchElementException, IllegalStateException, IllegalArgumentException {
        needSale(sale);
        if (!now.isAsked(sale)) {
            refuseUntimely();
        }
        needWithin(units, 1, now.sale[sale].open);
        history.keep(now);
        order.arrange(now);
        chains.buyIn(now, order, sale, units);
        return now.sale[sale].open;
    }

    public int undo() {
        return history.takeBack(now);
    }

    public int told(int what) throws IllegalArgumentException {
        needWithin(what, 0, 10);
        switch (what) {
            case 0:
                return now.dealers;
            case 1:
                return now.sales;
            case 2:
                return now.day;
            case 3:
                return now.mark;
            case 4:
                return now.rate;
            case 5:
                return now.lot;
            case 6:
                return now.patience;
            case 7:
                return now.countFails();
            case 8:
                return now.unitsOfFails(NONE, NONE);
            case 9:
                return reader.bytes;
            default:
                return history.kept;
        }
    }

    public long dealer(int dealer, int what) throws NoSuchElementException, IllegalArgumentException {
        needDealer(dealer);
        needWithin(what, 0, 8);
        Dealer asked = now.dealer[dealer];
        switch (what) {
            case 0:
                return asked.stock;
            case 1:
                return asked.cash;
            case 2:
                return asked.penaltiesPaid;
            case 3:
                return asked.penaltiesGot;
            case 4:
                return now.unitsOfFails(dealer, NONE);
            case 5:
                return now.unitsOfFails(NONE, dealer);
            case 6:
                return ownFaultOf(dealer);
            case 7:
                return asked.paidForBuyIns;
            default:
                return asked.boughtIn;
        }
    }

    public int of(int sale, int what) throws NoSuchElementException, IllegalArgumentException {
        needSale(sale);
        needWithin(what, 0, 10);
        Sale asked = now.sale[sale];
        switch (what) {
            case 0:
                return asked.seller;
            case 1:
                return asked.buyer;
            case 2:
                return asked.units;
            case 3:
                return asked.price;
            case 4:
                return asked.due;
            case 5:
                return asked.open;
            case 6:
                return asked.settledInRings;
            case 7:
                return asked.delivered;
            case 8:
                return asked.closed;
            case 9:
                return placeOf(sale);
            default:
                return now.isAsked(sale) ? 1 : 0;
        }
    }

    public long rule(int sale) throws NoSuchElementException {
        needSale(sale);
        return order.worthOf(now, now.sale[sale]);
    }

    public int part(int sale, int i, int what) throws NoSuchElementException, IllegalArgumentException {
        needSale(sale);
        standNow();
        if (i < 0 || i >= chains.count[sale]) {
            refuseMissing();
        }
        needWithin(what, 0, 1);
        int place = chains.first[sale] + i;
        return what == 0 ? chains.on[place] : chains.units[place];
    }

    public int parts(int sale) throws NoSuchElementException {
        needSale(sale);
        standNow();
        return chains.count[sale];
    }

    public int chain(int sale, int i) throws NoSuchElementException {
        needSale(sale);
        if (i < 0 || !now.isAsked(sale)) {
            refuseMissing();
        }
        standNow();
        int found = chains.linkOf(sale, i);
        if (found == NONE) {
            refuseMissing();
        }
        return found;
    }

    public int ring(int what) throws IllegalArgumentException {
        needWithin(what, 0, 9);
        order.arrange(now);
        if (!circle.find(now, order)) {
            return NONE;
        }
        if (what == 0) {
            return circle.size;
        }
        if (what == 1) {
            return circle.units;
        }
        int i = what - 2;
        return i < circle.size ? circle.member[i] : NONE;
    }

    public long most(int what) throws IllegalArgumentException {
        needWithin(what, 0, 1);
        return greatest.sum(now, what == 1);
    }

    public int foretold(int n) throws IllegalArgumentException {
        needWithin(n, 1, MOST_NIGHTS_FORETOLD);
        imagined.copyFrom(now);
        for (int i = 0; i < n; i++) {
            if (imagined.day >= LAST_DAY) {
                return 0;
            }
            dusk.pass(imagined);
        }
        return dusk.failUnits;
    }

    public long without(int sale) throws NoSuchElementException {
        if (sale != NONE) {
            needSale(sale);
        }
        if (now.day >= LAST_DAY) {
            return 0;
        }
        imagined.copyFrom(now);
        if (sale != NONE) {
            imagined.leaveOut(sale);
        }
        dusk.pass(imagined);
        return dusk.penalties;
    }

    public int between(int seller, int buyer) throws NoSuchElementException {
        needDealer(seller);
        needDealer(buyer);
        return now.unitsOfFails(seller, buyer);
    }

    public long mean() {
        int units = now.unitsOfFails(NONE, NONE);
        if (units <= 0) {
            return 0;
        }
        return bitsOf((double) now.valueOfFails() / (double) units);
    }

    public long outside() {
        return now.outside;
    }

    public long print() {
        long print = 0;
        for (int i = 0; i < now.dealers; i++) {
            print = 31 * print + now.dealer[i].stock;
            print = 31 * print + now.dealer[i].cash;
        }
        for (int i = 0; i < now.sales; i++) {
            print = 31 * print + now.sale[i].open;
        }
        return print;
    }

    public int status(int what) {
        return what < MISSING || what > UNTIMELY ? NONE : refusals[what];
    }

    private void standNow() {
        order.arrange(now);
        chains.stand(now, order);
    }

    private int ownFaultOf(int dealer) {
        standNow();
        return chains.ownFault[dealer];
    }

    private int placeOf(int sale) {
        order.arrange(now);
        return order.placeOf(sale);
    }

    private void needDealer(int dealer) {
        if (dealer < 0 || dealer >= now.dealers) {
            refuseMissing();
        }
    }

    private void needSale(int sale) {
        if (sale < 0 || sale >= now.sales) {
            refuseMissing();
        }
    }

    private void needWithin(int number, int least, int greatestOne) {
        if (number < least || number > greatestOne) {
            refuseUnfit();
        }
    }

    private void refuseMissing() {
        refusals[MISSING]++;
        throw new NoSuchElementException();
    }

    private void refuseUnfit() {
        refusals[UNFIT]++;
        throw new IllegalArgumentException();
    }

    private void refuseUntimely() {
        refusals[UNTIMELY]++;
        throw new IllegalStateException();
    }

    /** The library's own function is not in the language's list; halving and doubling lose no bit. */
    private static long bitsOf(double atLeastOne) {
        double scaled = atLeastOne;
        int exponent = 0;
        for (int i = 0; i < 64 && scaled >= 2.0; i++) {
            scaled = scaled / 2.0;
            exponent++;
        }
        long hiddenBit = 1L << 52;
        long fraction = (long) (scaled * (double) hiddenBit) - hiddenBit;
        return ((long) (exponent + 1023) << 52) + fraction;
    }

    private static final class Dealer {
        int stock;
        long cash;
        long penaltiesPaid;
        long penaltiesGot;
        long paidForBuyIns;
        int boughtIn;

        void start(int stockTold) {
            stock = stockTold;
            cash = 0;
            penaltiesPaid = 0;
            penaltiesGot = 0;
            paidForBuyIns = 0;
            boughtIn = 0;
        }

        void copyFrom(Dealer other) {
            stock = other.stock;
            cash = other.cash;
            penaltiesPaid = other.penaltiesPaid;
            penaltiesGot = other.penaltiesGot;
            paidForBuyIns = other.paidForBuyIns;
            boughtIn = other.boughtIn;
        }
    }

    private static final class Sale {
        int seller;
        int buyer;
        int units;
        int price;
        int due;
        int open;
        int settledInRings;
        int delivered;
        int closed;

        void copyFrom(Sale other) {
            seller = other.seller;
            buyer = other.buyer;
            units = other.units;
            price = other.price;
            due = other.due;
            open = other.open;
            settledInRings = other.settledInRings;
            delivered = other.delivered;
            closed = other.closed;
        }
    }

    /** All that an act changes and undo() brings back. */
    private static final class House {
        private static final int[] NO_RULE = {};

        final Dealer[] dealer = new Dealer[MOST_DEALERS];
        final Sale[] sale = new Sale[MOST_SALES];
        int dealers;
        int sales;
        int day;
        int mark;
        int rate;
        int lot;
        int patience;
        long outside;
        int[] code = NO_RULE;

        House() {
            for (int i = 0; i < MOST_DEALERS; i++) {
                dealer[i] = new Dealer();
            }
            for (int i = 0; i < MOST_SALES; i++) {
                sale[i] = new Sale();
            }
            empty();
        }

        void empty() {
            dealers = 0;
            sales = 0;
            day = 0;
            mark = 100;
            rate = 0;
            lot = 1;
            patience = 4;
            outside = 0;
            code = NO_RULE;
        }

        void copyFrom(House other) {
            dealers = other.dealers;
            sales = other.sales;
            day = other.day;
            mark = other.mark;
            rate = other.rate;
            lot = other.lot;
            patience = other.patience;
            outside = other.outside;
            // Once made, a rule's code is never changed, so all houses may share it.
            code = other.code;
            for (int i = 0; i < dealers; i++) {
                dealer[i].copyFrom(other.dealer[i]);
            }
            for (int i = 0; i < sales; i++) {
                sale[i].copyFrom(other.sale[i]);
            }
        }

        void addDealer(int stock) {
            if (dealers < MOST_DEALERS) {
                dealer[dealers].start(stock);
                dealers++;
            }
        }

        void addSale(int seller, int buyer, int units, int price, int due) {
            if (sales >= MOST_SALES) {
                return;
            }
            Sale added = sale[sales];
            added.seller = seller;
            added.buyer = buyer;
            added.units = units;
            added.price = price;
            added.due = due;
            added.open = units;
            added.settledInRings = 0;
            added.delivered = 0;
            added.closed = 0;
            sales++;
        }

        boolean isAsked(int i) {
            return sale[i].due <= day && sale[i].open > 0;
        }

        /** Without OPEN it is never asked, so that it bears on no other sale; its number stays taken. */
        void leaveOut(int i) {
            sale[i].open = 0;
        }

        int countFails() {
            int fails = 0;
            for (int i = 0; i < sales; i++) {
                fails += isAsked(i) ? 1 : 0;
            }
            return fails;
        }

        /** NONE for a seller or a buyer stands for all of them. */
        int unitsOfFails(int seller, int buyer) {
            int units = 0;
            for (int i = 0; i < sales; i++) {
                boolean sold = seller == NONE || sale[i].seller == seller;
                boolean bought = buyer == NONE || sale[i].buyer == buyer;
                if (sold && bought && isAsked(i)) {
                    units += sale[i].open;
                }
            }
            return units;
        }

        long valueOfFails() {
            long value = 0;
            for (int i = 0; i < sales; i++) {
                if (isAsked(i)) {
                    value += (long) sale[i].price * sale[i].open;
                }
            }
            return value;
        }

        boolean sellsAsked(int seller) {
            return unitsOfFails(seller, NONE) > 0;
        }

        int wholeLots(int units) {
            return lot < 1 ? 0 : units - units % lot;
        }

        void payForUnits(Sale settled, int units) {
            long money = (long) units * settled.price;
            dealer[settled.buyer].cash -= money;
            dealer[settled.seller].cash += money;
            settled.open -= units;
        }

        void settleInRing(int i, int units) {
            payForUnits(sale[i], units);
            sale[i].settledInRings += units;
        }

        void deliver(int i, int units) {
            payForUnits(sale[i], units);
            sale[i].delivered += units;
            dealer[sale[i].seller].stock -= units;
            dealer[sale[i].buyer].stock += units;
        }

        int deliverable(int i) {
            int there = dealer[sale[i].seller].stock;
            return there >= sale[i].open ? sale[i].open : wholeLots(there);
        }

        long penaltyOf(int i) {
            return (long) sale[i].open * sale[i].price * rate / 100_000;
        }

        void payPenalty(int i, long money) {
            Dealer seller = dealer[sale[i].seller];
            Dealer buyer = dealer[sale[i].buyer];
            seller.cash -= money;
            seller.penaltiesPaid += money;
            buyer.cash += money;
            buyer.penaltiesGot += money;
        }

        void buyOutside(int i, int units) {
            Dealer buyer = dealer[sale[i].buyer];
            long money = (long) units * mark;
            buyer.stock += units;
            buyer.boughtIn += units;
            buyer.cash -= money;
            outside += money;
        }

        void close(int i, int units) {
            Dealer seller = dealer[sale[i].seller];
            long money = (long) units * Math.max(0, mark - sale[i].price);
            seller.cash -= money;
            seller.paidForBuyIns += money;
            dealer[sale[i].buyer].cash += money;
            sale[i].open -= units;
            sale[i].closed += units;
        }
    }

    /** The houses ahead of the latest acts, in a round of places that is used again and again. */
    private static final class History {
        final House[] past = new House[MOST_ACTS];
        int next;
        int kept;

        History() {
            for (int i = 0; i < MOST_ACTS; i++) {
                past[i] = new House();
            }
        }

        void keep(House house) {
            past[next].copyFrom(house);
            next = (next + 1) % MOST_ACTS;
            kept = Math.min(kept + 1, MOST_ACTS);
        }

        int takeBack(House house) {
            if (kept == 0) {
                return NONE;
            }
            next = (next + MOST_ACTS - 1) % MOST_ACTS;
            kept--;
            house.copyFrom(past[next]);
            return kept;
        }
    }

    /** The tape, and what reads a text from it into a house of its own, up to the first fault. */
    private static final class Reader {
        private static final int END = 0;
        private static final int WORD = 1;
        private static final int NUMBER = 2;
        private static final int SIGN = 3;

        /** What words are worth as tokens: these ahead of a line, the operands of Order within a rule. */
        private static final int UNKNOWN = 0;
        private static final int DEALER_LINE = 1;
        private static final int SALE_LINE = 2;
        private static final int RATE_LINE = 3;
        private static final int LOT_LINE = 4;
        private static final int BUYIN_LINE = 5;
        private static final int MARK_LINE = 6;
        private static final int RULE_LINE = 7;

        private static final int NOT_THERE = 1;
        private static final int NO_SUCH_NUMBER = 2;
        private static final int TOO_MANY = 3;
        private static final int TOO_DEEP = 4;

        private static final int MOST_DEPTH = 5;
        private static final int MOST_STOCK_TOLD = 9_999;
        private static final int MOST_IN_RULE = 9_999;
        /** Above all limits of numbers, so that any count of digits can be read without a wrap. */
        private static final int HUGE = 1_000_000;

        final byte[] tape = new byte[MOST_BYTES];
        final House house = new House();
        int bytes;
        int fault;
        int faultPlace;
        private final int[] kind = new int[MOST_BYTES + 1];
        private final int[] start = new int[MOST_BYTES + 1];
        private final int[] value = new int[MOST_BYTES + 1];
        private final int[] code = new int[MOST_BYTES];
        private int codeLength;
        private int tokens;
        private int next;
        private int linesSeen;

        void put(int number) {
            for (int shift = 24; shift >= 0; shift -= 8) {
                if (bytes < MOST_BYTES) {
                    tape[bytes] = (byte) (number >> shift);
                    bytes++;
                }
            }
        }

        void readTape(int n) {
            splitTape(Math.min(n, bytes));
            bytes = 0;
            fault = 0;
            faultPlace = NONE;
            next = 0;
            linesSeen = 0;
            codeLength = 0;
            house.empty();
            for (int i = 0; i < MOST_BYTES && kind[next] != END && fault == 0; i++) {
                readLine();
                take(';');
            }
        }

        /** The end is a token, too: none is taken behind it, so that there is always a next one. */
        private void splitTape(int length) {
            tokens = 0;
            int at = passBlanks(0, length);
            for (int i = 0; i < MOST_BYTES && at < length; i++) {
                int end = at + 1;
                if (isLetter(tape[at])) {
                    end = passLetters(at, length);
                    addToken(WORD, at, wordAt(at, end));
                } else if (isDigit(tape[at])) {
                    end = passDigits(at, length);
                    addToken(NUMBER, at, numberAt(at, end));
                } else {
                    addToken(SIGN, at, tape[at]);
                }
                at = passBlanks(end, length);
            }
            addToken(END, length, UNKNOWN);
        }

        private void addToken(int kindOfIt, int at, int worth) {
            if (tokens < kind.length) {
                kind[tokens] = kindOfIt;
                start[tokens] = at;
                value[tokens] = worth;
                tokens++;
            }
        }

        private int passBlanks(int from, int length) {
            int at = from;
            for (int i = from; i < length && tape[i] == ' '; i++) {
                at = i + 1;
            }
            return at;
        }

        private int passLetters(int from, int length) {
            int at = from;
            for (int i = from; i < length && isLetter(tape[i]); i++) {
                at = i + 1;
            }
            return at;
        }

        private int passDigits(int from, int length) {
            int at = from;
            for (int i = from; i < length && isDigit(tape[i]); i++) {
                at = i + 1;
            }
            return at;
        }

        private static boolean isLetter(int sign) {
            return sign >= 'a' && sign <= 'z';
        }

        private static boolean isDigit(int sign) {
            return sign >= '0' && sign <= '9';
        }

        private int numberAt(int from, int end) {
            int number = 0;
            for (int i = from; i < end; i++) {
                number = Math.min(number * 10 + tape[i] - '0', HUGE);
            }
            return number;
        }

        private int wordAt(int from, int end) {
            if (spells("dealer", from, end)) {
                return DEALER_LINE;
            }
            if (spells("sale", from, end)) {
                return SALE_LINE;
            }
            if (spells("rate", from, end)) {
                return RATE_LINE;
            }
            if (spells("lot", from, end)) {
                return LOT_LINE;
            }
            if (spells("buyin", from, end)) {
                return BUYIN_LINE;
            }
            if (spells("mark", from, end)) {
                return MARK_LINE;
            }
            return spells("rule", from, end) ? RULE_LINE : operandAt(from, end);
        }

        private int operandAt(int from, int end) {
            if (spells("age", from, end)) {
                return Order.AGE;
            }
            if (spells("open", from, end)) {
                return Order.OPEN;
            }
            if (spells("units", from, end)) {
                return Order.UNITS;
            }
            if (spells("price", from, end)) {
                return Order.PRICE;
            }
            if (spells("seller", from, end)) {
                return Order.SELLER;
            }
            if (spells("buyer", from, end)) {
                return Order.BUYER;
            }
            return spells("due", from, end) ? Order.DUE : UNKNOWN;
        }

        private boolean spells(String word, int from, int end) {
            if (end - from != word.length()) {
                return false;
            }
            for (int i = 0; i < word.length(); i++) {
                if (tape[from + i] != word.charAt(i)) {
                    return false;
                }
            }
            return true;
        }

        private void readLine() {
            switch (kind[next] == WORD ? value[next] : UNKNOWN) {
                case DEALER_LINE:
                    readDealer();
                    break;
                case SALE_LINE:
                    readSale();
                    break;
                case RATE_LINE:
                    house.rate = readOnce(RATE_LINE, 0, 999);
                    break;
                case LOT_LINE:
                    house.lot = readOnce(LOT_LINE, 1, 100);
                    break;
                case BUYIN_LINE:
                    house.patience = readOnce(BUYIN_LINE, 0, 30);
                    break;
                case MARK_LINE:
                    house.mark = readOnce(MARK_LINE, 1, MOST_PRICE);
                    break;
                case RULE_LINE:
                    takeOnce(RULE_LINE);
                    readSum(0);
                    keepRule();
                    break;
                default:
                    refuse(NOT_THERE);
            }
        }

        private void readDealer() {
            if (house.dealers >= MOST_DEALERS) {
                refuse(TOO_MANY);
                return;
            }
            advance();
            int stock = takeNumber(0, MOST_STOCK_TOLD, NONE);
            if (fault == 0) {
                house.addDealer(stock);
            }
        }

        private void readSale() {
            if (house.sales >= MOST_SALES) {
                refuse(TOO_MANY);
                return;
            }
            advance();
            int seller = takeNumber(0, house.dealers - 1, NONE);
            int buyer = takeNumber(0, house.dealers - 1, seller);
            int units = takeNumber(1, MOST_UNITS, NONE);
            int price = takeNumber(1, MOST_PRICE, NONE);
            int due = takeNumber(0, MOST_DUE, NONE);
            if (fault == 0) {
                house.addSale(seller, buyer, units, price, due);
            }
        }

        private int readOnce(int line, int least, int most) {
            takeOnce(line);
            return takeNumber(least, most, NONE);
        }

        private void takeOnce(int line) {
            if ((linesSeen >> line & 1) != 0) {
                refuse(NOT_THERE);
                return;
            }
            linesSeen |= 1 << line;
            advance();
        }

        private void keepRule() {
            if (fault == 0) {
                house.code = Arrays.copyOf(code, codeLength);
            }
        }

        private void readSum(int depth) {
            readProduct(depth);
            for (int i = 0; i < MOST_BYTES && (isNext('+') || isNext('-')); i++) {
                int step = isNext('+') ? Order.PLUS : Order.MINUS;
                advance();
                readProduct(depth);
                write(step);
            }
        }

        private void readProduct(int depth) {
            readFactor(depth);
            for (int i = 0; i < MOST_BYTES && isNext('*'); i++) {
                advance();
                readFactor(depth);
                write(Order.TIMES);
            }
        }

        private void readFactor(int depth) {
            if (kind[next] == NUMBER) {
                write(takeNumber(0, MOST_IN_RULE, NONE));
            } else if (kind[next] == WORD && value[next] < UNKNOWN) {
                write(value[next]);
                advance();
            } else if (!isNext('(') && !isNext('-')) {
                refuse(NOT_THERE);
            } else if (depth >= MOST_DEPTH) {
                refuse(TOO_DEEP);
            } else if (isNext('(')) {
                advance();
                readSum(depth + 1);
                take(')');
            } else {
                advance();
                readFactor(depth + 1);
                write(Order.NEGATE);
            }
        }

        private void write(int step) {
            if (fault == 0 && codeLength < MOST_BYTES) {
                code[codeLength] = step;
                codeLength++;
            }
        }

        private void take(char wanted) {
            if (isNext(wanted)) {
                advance();
            } else {
                refuse(NOT_THERE);
            }
        }

        /** NONE, if there is a fault; except is a number that may not stand there. */
        private int takeNumber(int least, int most, int except) {
            if (fault != 0) {
                return NONE;
            }
            int number = value[next];
            if (kind[next] != NUMBER) {
                refuse(NOT_THERE);
                return NONE;
            }
            if (number < least || number > most || number == except) {
                refuse(NO_SUCH_NUMBER);
                return NONE;
            }
            advance();
            return number;
        }

        /** After a fault nothing is next, so that all loops that read on come to their end. */
        private boolean isNext(char wanted) {
            return fault == 0 && kind[next] == SIGN && value[next] == wanted;
        }

        private void advance() {
            if (fault == 0 && next < tokens - 1) {
                next++;
            }
        }

        /** Tokens are read from left to right, so the first fault is the one whose first byte is least. */
        private void refuse(int which) {
            if (fault == 0) {
                fault = which;
                faultPlace = start[next];
            }
        }
    }

    /** The ORDER of a house's sales; a rule's code is a number as it is, or one of these, operands first. */
    private static final class Order {
        static final int AGE = -1;
        static final int OPEN = -2;
        static final int UNITS = -3;
        static final int PRICE = -4;
        static final int SELLER = -5;
        static final int BUYER = -6;
        static final int DUE = -7;
        static final int NEGATE = -8;
        static final int PLUS = -9;
        static final int MINUS = -10;
        static final int TIMES = -11;

        /** A sum and a product may wait at each of the six depths, and one factor more: 13 at most. */
        private static final int MOST_WAITING = 16;

        final int[] at = new int[MOST_SALES];
        final long[] worth = new long[MOST_SALES];
        final long[] waiting = new long[MOST_WAITING];
        int size;

        void arrange(House house) {
            size = house.sales;
            for (int i = 0; i < size; i++) {
                worth[i] = worthOf(house, house.sale[i]);
                insert(i);
            }
        }

        /** Sales come in by number, so of several of one worth the least number stays ahead. */
        private void insert(int sale) {
            int place = sale;
            for (int i = sale - 1; i >= 0 && worth[at[i]] < worth[sale]; i--) {
                at[i + 1] = at[i];
                place = i;
            }
            at[place] = sale;
        }

        int placeOf(int sale) {
            for (int i = 0; i < size; i++) {
                if (at[i] == sale) {
                    return i;
                }
            }
            return NONE;
        }

        long worthOf(House house, Sale sale) {
            int top = 0;
            for (int i = 0; i < house.code.length; i++) {
                int step = house.code[i];
                if (step > NEGATE) {
                    if (top < MOST_WAITING) {
                        waiting[top] = operand(step, house, sale);
                        top++;
                    }
                } else if (step == NEGATE) {
                    if (top > 0) {
                        waiting[top - 1] = -waiting[top - 1];
                    }
                } else if (top > 1) {
                    top--;
                    waiting[top - 1] = joined(step, waiting[top - 1], waiting[top]);
                }
            }
            return top > 0 ? waiting[0] : 0;
        }

        private static long operand(int step, House house, Sale sale) {
            switch (step) {
                case AGE:
                    return house.day - sale.due;
                case OPEN:
                    return sale.open;
                case UNITS:
                    return sale.units;
                case PRICE:
                    return sale.price;
                case SELLER:
                    return sale.seller;
                case BUYER:
                    return sale.buyer;
                case DUE:
                    return sale.due;
                default:
                    return step;
            }
        }

        private static long joined(int step, long left, long right) {
            if (step == PLUS) {
                return left + right;
            }
            return step == MINUS ? left - right : left * right;
        }
    }

    /** Who stands on whom: the PARTS of all sales, those of one sale side by side, and buy-ins down them. */
    private static final class Parts {
        /** A part ends with a sale that stands or with one that is stood on, so there are no more. */
        private static final int MOST_PARTS = 2 * MOST_SALES;

        final int[] first = new int[MOST_SALES];
        final int[] count = new int[MOST_SALES];
        final int[] on = new int[MOST_PARTS];
        final int[] units = new int[MOST_PARTS];
        final int[] ownFault = new int[MOST_DEALERS];
        private final int[] notDown = new int[MOST_PARTS];
        private final int[] free = new int[MOST_SALES];
        private int used;

        void stand(House house, Order order) {
            used = 0;
            Arrays.fill(ownFault, 0);
            for (int i = 0; i < house.sales; i++) {
                free[i] = house.isAsked(i) ? house.sale[i].open : 0;
                first[i] = 0;
                count[i] = 0;
            }
            for (int i = 0; i < order.size; i++) {
                if (house.isAsked(order.at[i])) {
                    standOne(house, order, order.at[i]);
                }
            }
        }

        private void standOne(House house, Order order, int sale) {
            int seller = house.sale[sale].seller;
            int left = house.sale[sale].open;
            first[sale] = used;
            for (int i = 0; i < order.size && left > 0; i++) {
                int below = order.at[i];
                if (house.sale[below].buyer == seller && free[below] > 0) {
                    int taken = Math.min(left, free[below]);
                    free[below] -= taken;
                    left -= taken;
                    add(below, taken);
                }
            }
            count[sale] = used - first[sale];
            ownFault[seller] += left;
        }

        private void add(int below, int taken) {
            if (used < MOST_PARTS) {
                on[used] = below;
                units[used] = taken;
                notDown[used] = taken;
                used++;
            }
        }

        int linkOf(int sale, int i) {
            int link = sale;
            int passed = 1 << sale;
            for (int k = 0; k < i && k < MOST_SALES; k++) {
                if (count[link] == 0) {
                    return NONE;
                }
                link = on[first[link]];
                if ((passed >> link & 1) != 0) {
                    return NONE;
                }
                passed |= 1 << link;
            }
            return link;
        }

        void buyIn(House house, Order order, int sale, int bought) {
            stand(house, order);
            house.buyOutside(sale, bought);
            closeDown(house, sale, bought, 0, 0);
        }

        private void closeDown(House house, int sale, int closed, int above, int depth) {
            if (depth >= MOST_SALES) {
                return;
            }
            house.close(sale, closed);
            int way = above | 1 << sale;
            int left = closed;
            int end = first[sale] + count[sale];
            for (int i = first[sale]; i < end && left > 0; i++) {
                int down = Math.min(left, notDown[i]);
                if (down > 0 && (way >> on[i] & 1) == 0) {
                    notDown[i] -= down;
                    left -= down;
                    closeDown(house, on[i], down, way, depth + 1);
                }
            }
        }
    }

    /** The first RING of a house; sets of dealers are bits. */
    private static final class Ring {
        final int[] member = new int[MOST_DEALERS];
        int size;
        int units;
        private final int[] buyersOf = new int[MOST_DEALERS];

        boolean find(House house, Order order) {
            seeBuyers(house);
            for (int i = 0; i < order.size; i++) {
                int begin = order.at[i];
                if (isFit(house, begin) && follow(house, order, begin)) {
                    units = house.wholeLots(leastOpen(house));
                    return units > 0;
                }
            }
            return false;
        }

        /** A lot is one unit at least, so that what has a lot open is open. */
        private static boolean isFit(House house, int i) {
            return house.sale[i].due <= house.day && house.sale[i].open >= house.lot;
        }

        private void seeBuyers(House house) {
            Arrays.fill(buyersOf, 0);
            for (int i = 0; i < house.sales; i++) {
                if (isFit(house, i)) {
                    buyersOf[house.sale[i].seller] |= 1 << house.sale[i].buyer;
                }
            }
        }

        /** Only a sale from whose buyer a way home is free is taken, so no step is ever taken back. */
        private boolean follow(House house, Order order, int begin) {
            int home = house.sale[begin].seller;
            int at = house.sale[begin].buyer;
            int sellers = 1 << home;
            member[0] = begin;
            size = 1;
            for (int i = 1; i < MOST_DEALERS && at != home; i++) {
                sellers |= 1 << at;
                int next = nextOf(house, order, at, whoReach(home, sellers));
                if (next == NONE) {
                    return false;
                }
                member[i] = next;
                size = i + 1;
                at = house.sale[next].buyer;
            }
            return at == home;
        }

        private static int nextOf(House house, Order order, int seller, int buyers) {
            for (int i = 0; i < order.size; i++) {
                Sale sale = house.sale[order.at[i]];
                if (sale.seller == seller && (buyers >> sale.buyer & 1) != 0 && isFit(house, order.at[i])) {
                    return order.at[i];
                }
            }
            return NONE;
        }

        /** Home, and the dealers from whom sales lead there past nobody who is in the ring already. */
        private int whoReach(int home, int barred) {
            int reached = 1 << home;
            int before = 0;
            for (int round = 0; round < MOST_DEALERS && reached != before; round++) {
                before = reached;
                for (int i = 0; i < MOST_DEALERS; i++) {
                    if ((barred >> i & 1) == 0 && (buyersOf[i] & reached) != 0) {
                        reached |= 1 << i;
                    }
                }
            }
            return reached;
        }

        private int leastOpen(House house) {
            int least = house.sale[member[0]].open;
            for (int i = 1; i < size; i++) {
                least = Math.min(least, house.sale[member[i]].open);
            }
            return least;
        }
    }

    /**
     * MOST at once: all that is open is settled first; then who gives too much gives less, by way of the
     * cheapest row of sales that ends at one who can miss it (so that what is lost is the least).
     */
    private static final class Most {
        private static final long FAR = 1_000_000_000L;
        /** Each round takes back at least one of the 24,000 units that can be open. */
        private static final int MOST_ROUNDS = MOST_SALES * MOST_UNITS + 1;

        private final int[] settled = new int[MOST_SALES];
        private final int[] limit = new int[MOST_SALES];
        private final long[] spare = new long[MOST_DEALERS];
        private final long[] loss = new long[MOST_DEALERS];
        private final int[] cameBy = new int[MOST_DEALERS];

        long sum(House house, boolean byPrice) {
            settleAll(house);
            for (int i = 0; i < MOST_ROUNDS && isShort(house); i++) {
                weighLosses(house, byPrice);
                int end = cheapestEnd(house);
                if (end == NONE || !takeBack(house, end)) {
                    break;
                }
            }
            long sum = 0;
            for (int i = 0; i < house.sales; i++) {
                sum += settled[i] * gain(house.sale[i], byPrice);
            }
            return sum;
        }

        private static long gain(Sale sale, boolean byPrice) {
            return byPrice ? sale.price : 1;
        }

        private void settleAll(House house) {
            for (int i = 0; i < house.dealers; i++) {
                spare[i] = house.dealer[i].stock;
            }
            for (int i = 0; i < house.sales; i++) {
                limit[i] = house.isAsked(i) ? house.sale[i].open : 0;
                settled[i] = limit[i];
                spare[house.sale[i].seller] -= limit[i];
                spare[house.sale[i].buyer] += limit[i];
            }
        }

        private boolean isShort(House house) {
            for (int i = 0; i < house.dealers; i++) {
                if (spare[i] < 0) {
                    return true;
                }
            }
            return false;
        }

        private void weighLosses(House house, boolean byPrice) {
            for (int i = 0; i < house.dealers; i++) {
                loss[i] = spare[i] < 0 ? 0 : FAR;
                cameBy[i] = NONE;
            }
            boolean changed = true;
            for (int round = 0; round < MOST_DEALERS && changed; round++) {
                changed = false;
                for (int i = 0; i < house.sales; i++) {
                    changed |= weigh(house.sale[i], i, gain(house.sale[i], byPrice));
                }
            }
        }

        private boolean weigh(Sale sale, int i, long gain) {
            long bySeller = loss[sale.seller];
            if (settled[i] > 0 && bySeller < FAR && bySeller + gain < loss[sale.buyer]) {
                loss[sale.buyer] = bySeller + gain;
                cameBy[sale.buyer] = i;
                return true;
            }
            long byBuyer = loss[sale.buyer];
            if (settled[i] < limit[i] && byBuyer < FAR && byBuyer - gain < loss[sale.seller]) {
                loss[sale.seller] = byBuyer - gain;
                cameBy[sale.seller] = i;
                return true;
            }
            return false;
        }

        private int cheapestEnd(House house) {
            int end = NONE;
            for (int i = 0; i < house.dealers; i++) {
                if (spare[i] > 0 && loss[i] < FAR && (end == NONE || loss[i] < loss[end])) {
                    end = i;
                }
            }
            return end;
        }

        private boolean takeBack(House house, int end) {
            long units = spare[end];
            int at = end;
            for (int i = 0; i < MOST_DEALERS && cameBy[at] != NONE; i++) {
                Sale sale = house.sale[cameBy[at]];
                int room = sale.buyer == at ? settled[cameBy[at]] : limit[cameBy[at]] - settled[cameBy[at]];
                units = Math.min(units, room);
                at = sale.buyer == at ? sale.seller : sale.buyer;
            }
            units = Math.min(units, -spare[at]);
            if (units <= 0) {
                return false;
            }
            spare[at] += units;
            spare[end] -= units;
            change(house, end, (int) units);
            return true;
        }

        private void change(House house, int end, int units) {
            int at = end;
            for (int i = 0; i < MOST_DEALERS && cameBy[at] != NONE; i++) {
                Sale sale = house.sale[cameBy[at]];
                settled[cameBy[at]] += sale.buyer == at ? -units : units;
                at = sale.buyer == at ? sale.seller : sale.buyer;
            }
        }
    }

    /** A NIGHT over any house, and what was counted in it. */
    private static final class Night {
        /** Each pass of delivery settles at least one of the 24,000 units that can be open. */
        private static final int MOST_PASSES = MOST_SALES * MOST_UNITS + 1;

        private final Order order = new Order();
        private final Ring ring = new Ring();
        private final Parts parts = new Parts();
        int fails;
        int failUnits;
        long penalties;

        void pass(House house) {
            order.arrange(house);
            settleRings(house);
            boolean some = true;
            for (int i = 0; i < MOST_PASSES && some; i++) {
                some = deliverAll(house);
            }
            payPenalties(house);
            buyInLate(house);
            house.day++;
        }

        /** A ring leaves less than a lot open of one of its sales, so there are no more than sales. */
        private void settleRings(House house) {
            for (int i = 0; i < MOST_SALES && ring.find(house, order); i++) {
                for (int k = 0; k < ring.size; k++) {
                    house.settleInRing(ring.member[k], ring.units);
                }
            }
        }

        private boolean deliverAll(House house) {
            boolean some = false;
            for (int i = 0; i < order.size; i++) {
                int sale = order.at[i];
                int units = house.isAsked(sale) ? house.deliverable(sale) : 0;
                if (units > 0) {
                    house.deliver(sale, units);
                    some = true;
                }
            }
            return some;
        }

        private void payPenalties(House house) {
            fails = house.countFails();
            failUnits = house.unitsOfFails(NONE, NONE);
            penalties = 0;
            for (int i = 0; i < house.sales; i++) {
                if (house.isAsked(i)) {
                    long money = house.penaltyOf(i);
                    penalties += money;
                    house.payPenalty(i, money);
                }
            }
        }

        private void buyInLate(House house) {
            for (int i = 0; i < order.size; i++) {
                int sale = order.at[i];
                boolean late = house.day - house.sale[sale].due >= house.patience;
                if (late && house.isAsked(sale) && !house.sellsAsked(house.sale[sale].buyer)) {
                    parts.buyIn(house, order, sale, house.sale[sale].open);
                }
            }
        }
    }
}
