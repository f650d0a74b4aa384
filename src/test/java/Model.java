import java.util.ArrayList;
import java.util.Arrays;
import java.util.Comparator;
import java.util.Deque;
import java.util.ArrayDeque;
import java.util.HashMap;
import java.util.List;
import java.util.Map;
import java.util.NoSuchElementException;
import java.util.Set;
import java.util.TreeSet;
import java.util.function.ToLongFunction;
import java.util.regex.Matcher;
import java.util.regex.Pattern;

/**
 * The document once more, told in the slowest and plainest way (unit by unit, ring by ring, all tried),
 * to be asked beside the class.
 */
final class Model {
    static final class Fault extends RuntimeException {
        private static final long serialVersionUID = 1;

        final int which;
        final int place;

        Fault(int which, int place) {
            this.which = which;
            this.place = place;
        }
    }

    static final class D {
        long stock, cash, paid, got, forBuyIns, boughtIn;
    }

    static final class S {
        int number, seller, buyer, units, price, day, open, rung, delivered, closed;
    }

    static final class State {
        List<D> dealers = new ArrayList<>();
        List<S> sales = new ArrayList<>();
        int day = 0, mark = 100, rate = 0, lot = 1, buyin = 4;
        long outside = 0;
        ToLongFunction<S> rule = null;
        Parser parser = null;

        State copy() {
            State c = new State();
            for (D d : dealers) {
                D e = new D();
                e.stock = d.stock;
                e.cash = d.cash;
                e.paid = d.paid;
                e.got = d.got;
                e.forBuyIns = d.forBuyIns;
                e.boughtIn = d.boughtIn;
                c.dealers.add(e);
            }
            for (S s : sales) {
                S t = new S();
                t.number = s.number;
                t.seller = s.seller;
                t.buyer = s.buyer;
                t.units = s.units;
                t.price = s.price;
                t.day = s.day;
                t.open = s.open;
                t.rung = s.rung;
                t.delivered = s.delivered;
                t.closed = s.closed;
                c.sales.add(t);
            }
            c.day = day;
            c.mark = mark;
            c.rate = rate;
            c.lot = lot;
            c.buyin = buyin;
            c.outside = outside;
            c.rule = rule;
            c.parser = parser;
            return c;
        }

        boolean asked(S s) {
            return s.day <= day && s.open > 0;
        }

        long worth(S s) {
            if (rule == null) {
                return 0;
            }
            parser.day = day;
            return rule.applyAsLong(s);
        }

        List<S> order() {
            Map<S, Long> worths = new HashMap<>();
            for (S s : sales) {
                worths.put(s, worth(s));
            }
            List<S> in = new ArrayList<>(sales);
            in.sort(Comparator.<S>comparingLong(worths::get).reversed().thenComparingInt(s -> s.number));
            return in;
        }

        List<S> fails() {
            List<S> all = new ArrayList<>();
            for (S s : sales) {
                if (asked(s)) {
                    all.add(s);
                }
            }
            return all;
        }

        int failUnits() {
            return fails().stream().mapToInt(s -> s.open).sum();
        }
    }

    /** Tokens by a regular expression, a tree of functions as the rule. */
    static final class Parser {
        static final Pattern TOKEN = Pattern.compile(" *(?:([a-z]+)|([0-9]+)|([^ ])|$)", Pattern.DOTALL);
        final List<String> tokens = new ArrayList<>();
        final List<Integer> places = new ArrayList<>();
        final Set<String> once = new TreeSet<>();
        final State state = new State();
        int at = 0;
        int nested = 0;
        int day;

        Parser(String text) {
            Matcher m = TOKEN.matcher(text);
            int from = 0;
            while (from < text.length() && m.find(from)) {
                String token = m.group().replaceAll("^ +", "");
                if (!token.isEmpty()) {
                    tokens.add(token);
                    places.add(m.end() - token.length());
                }
                from = m.end();
            }
            tokens.add("");
            places.add(text.length());
        }

        String peek() {
            return tokens.get(at);
        }

        RuntimeException fault(int which) {
            return new Fault(which, places.get(at));
        }

        void sign(String wanted) {
            if (!peek().equals(wanted)) {
                throw fault(1);
            }
            at++;
        }

        int number(int least, int most, int but) {
            if (!peek().matches("[0-9]+")) {
                throw fault(1);
            }
            java.math.BigInteger n = new java.math.BigInteger(peek());
            if (n.bitLength() > 30 || n.intValue() < least || n.intValue() > most || n.intValue() == but) {
                throw fault(2);
            }
            at++;
            return n.intValue();
        }

        State all() {
            while (!peek().isEmpty()) {
                line();
                sign(";");
            }
            state.parser = this;
            return state;
        }

        void line() {
            String word = peek();
            switch (word) {
                case "dealer":
                    if (state.dealers.size() == 8) {
                        throw fault(3);
                    }
                    at++;
                    D d = new D();
                    d.stock = number(0, 9999, -1);
                    state.dealers.add(d);
                    return;
                case "sale":
                    if (state.sales.size() == 24) {
                        throw fault(3);
                    }
                    at++;
                    S s = new S();
                    s.number = state.sales.size();
                    s.seller = number(0, state.dealers.size() - 1, -1);
                    s.buyer = number(0, state.dealers.size() - 1, s.seller);
                    s.units = s.open = number(1, 1000, -1);
                    s.price = number(1, 10000, -1);
                    s.day = number(0, 999, -1);
                    state.sales.add(s);
                    return;
                case "rate": case "lot": case "buyin": case "mark": case "rule":
                    if (!once.add(word)) {
                        throw fault(1);
                    }
                    at++;
                    break;
                default:
                    throw fault(1);
            }
            if (word.equals("rate")) {
                state.rate = number(0, 999, -1);
            } else if (word.equals("lot")) {
                state.lot = number(1, 100, -1);
            } else if (word.equals("buyin")) {
                state.buyin = number(0, 30, -1);
            } else if (word.equals("mark")) {
                state.mark = number(1, 10000, -1);
            } else {
                state.rule = e();
            }
        }

        ToLongFunction<S> e() {
            ToLongFunction<S> sum = t();
            while (peek().equals("+") || peek().equals("-")) {
                boolean plus = peek().equals("+");
                at++;
                ToLongFunction<S> left = sum;
                ToLongFunction<S> right = t();
                sum = plus ? s -> left.applyAsLong(s) + right.applyAsLong(s)
                        : s -> left.applyAsLong(s) - right.applyAsLong(s);
            }
            return sum;
        }

        ToLongFunction<S> t() {
            ToLongFunction<S> product = f();
            while (peek().equals("*")) {
                at++;
                ToLongFunction<S> left = product;
                ToLongFunction<S> right = f();
                product = s -> left.applyAsLong(s) * right.applyAsLong(s);
            }
            return product;
        }

        ToLongFunction<S> f() {
            String token = peek();
            if (token.matches("[0-9]+")) {
                int n = number(0, 9999, -1);
                return s -> n;
            }
            if (token.equals("(") || token.equals("-")) {
                if (nested == 5) {
                    throw fault(4);
                }
                nested++;
                at++;
                ToLongFunction<S> inner = token.equals("(") ? e() : f();
                if (token.equals("(")) {
                    sign(")");
                }
                nested--;
                return token.equals("(") ? inner : s -> -inner.applyAsLong(s);
            }
            ToLongFunction<S> named = switch (token) {
                case "age" -> s -> day - s.day;
                case "open" -> s -> s.open;
                case "units" -> s -> s.units;
                case "price" -> s -> s.price;
                case "seller" -> s -> s.seller;
                case "buyer" -> s -> s.buyer;
                case "due" -> s -> s.day;
                default -> throw fault(1);
            };
            at++;
            return named;
        }
    }

    /** Of each asked sale, by its number, the number of the sale each of its units stands on, or -1. */
    static Map<Integer, List<Integer>> stands(State st, List<S> order) {
        Map<Integer, List<Integer>> on = new HashMap<>();
        for (int d = 0; d < st.dealers.size(); d++) {
            Deque<Integer> bought = new ArrayDeque<>();
            for (S s : order) {
                if (s.buyer == d && st.asked(s)) {
                    for (int u = 0; u < s.open; u++) {
                        bought.add(s.number);
                    }
                }
            }
            for (S s : order) {
                if (s.seller == d && st.asked(s)) {
                    List<Integer> units = new ArrayList<>();
                    for (int u = 0; u < s.open; u++) {
                        units.add(bought.isEmpty() ? -1 : bought.poll());
                    }
                    on.put(s.number, units);
                }
            }
        }
        return on;
    }

    static List<int[]> parts(State st, List<S> order, int sale) {
        List<int[]> parts = new ArrayList<>();
        for (int on : stands(st, order).getOrDefault(sale, List.of())) {
            if (on >= 0) {
                if (parts.isEmpty() || parts.get(parts.size() - 1)[0] != on) {
                    parts.add(new int[] {on, 0});
                }
                parts.get(parts.size() - 1)[1]++;
            }
        }
        return parts;
    }

    static List<Integer> chain(State st, int sale) {
        List<Integer> chain = new ArrayList<>();
        if (!st.asked(st.sales.get(sale))) {
            return chain;
        }
        int at = sale;
        while (!chain.contains(at)) {
            chain.add(at);
            List<int[]> parts = parts(st, st.order(), at);
            if (parts.isEmpty()) {
                break;
            }
            at = parts.get(0)[0];
        }
        return chain;
    }

    /** Unit by unit: each goes down by itself, along the first part that still has one to go. */
    static void buyIn(State st, List<S> order, int sale, int units) {
        Map<Integer, List<int[]>> all = new HashMap<>();
        for (S s : st.sales) {
            all.put(s.number, parts(st, order, s.number));
        }
        S top = st.sales.get(sale);
        for (int u = 0; u < units; u++) {
            D buyer = st.dealers.get(top.buyer);
            buyer.stock++;
            buyer.boughtIn++;
            buyer.cash -= st.mark;
            st.outside += st.mark;
            List<Integer> way = new ArrayList<>();
            for (int at = sale; at >= 0;) {
                way.add(at);
                S s = st.sales.get(at);
                s.open--;
                s.closed++;
                long more = st.mark > s.price ? st.mark - s.price : 0;
                st.dealers.get(s.seller).cash -= more;
                st.dealers.get(s.seller).forBuyIns += more;
                st.dealers.get(s.buyer).cash += more;
                at = -1;
                for (int[] part : all.get(s.number)) {
                    if (part[1] > 0 && !way.contains(part[0])) {
                        part[1]--;
                        at = part[0];
                        break;
                    }
                }
            }
        }
    }

    static List<S> ring(State st, List<S> order) {
        for (S first : order) {
            if (st.asked(first) && first.open >= st.lot) {
                List<S> ring = new ArrayList<>(List.of(first));
                if (grow(st, order, ring)) {
                    return ring;
                }
            }
        }
        return List.of();
    }

    private static boolean grow(State st, List<S> order, List<S> ring) {
        S last = ring.get(ring.size() - 1);
        if (last.buyer == ring.get(0).seller) {
            return true;
        }
        for (S next : order) {
            boolean fits = st.asked(next) && next.open >= st.lot && next.seller == last.buyer;
            if (fits && ring.stream().noneMatch(s -> s.seller == next.seller)) {
                ring.add(next);
                if (grow(st, order, ring)) {
                    return true;
                }
                ring.remove(ring.size() - 1);
            }
        }
        return false;
    }

    static int ringUnits(State st, List<S> ring) {
        int least = ring.stream().mapToInt(s -> s.open).min().orElse(0);
        return least / st.lot * st.lot;
    }

    static void settle(State st, S s, int units) {
        s.open -= units;
        st.dealers.get(s.buyer).cash -= (long) units * s.price;
        st.dealers.get(s.seller).cash += (long) units * s.price;
    }

    /** How many fails, units of them, penalties together. */
    static long[] night(State st) {
        List<S> order = st.order();
        for (List<S> ring = ring(st, order); !ring.isEmpty(); ring = ring(st, order)) {
            int units = ringUnits(st, ring);
            for (S s : ring) {
                settle(st, s, units);
                s.rung += units;
            }
        }
        boolean some = true;
        while (some) {
            some = false;
            for (S s : order) {
                long there = st.dealers.get(s.seller).stock;
                int units = (int) (there >= s.open ? s.open : there / st.lot * st.lot);
                if (st.asked(s) && units > 0) {
                    settle(st, s, units);
                    s.delivered += units;
                    st.dealers.get(s.seller).stock -= units;
                    st.dealers.get(s.buyer).stock += units;
                    some = true;
                }
            }
        }
        long[] counted = {st.fails().size(), st.failUnits(), 0};
        for (S s : st.fails()) {
            long money = (long) s.open * s.price * st.rate / 100_000;
            counted[2] += money;
            st.dealers.get(s.seller).cash -= money;
            st.dealers.get(s.seller).paid += money;
            st.dealers.get(s.buyer).cash += money;
            st.dealers.get(s.buyer).got += money;
        }
        for (S s : order) {
            boolean buyerSells = st.fails().stream().anyMatch(t -> t.seller == s.buyer);
            if (st.asked(s) && st.day - s.day >= st.buyin && !buyerSells) {
                buyIn(st, order, s.number, s.open);
            }
        }
        st.day++;
        return counted;
    }

    /** From nothing settled on: as long as a round of changes gains something, it is made. */
    static long most(State st, boolean byPrice) {
        int n = st.dealers.size() + 1;
        int outside = n - 1;
        List<int[]> arcs = new ArrayList<>();
        for (S s : st.fails()) {
            arcs.add(new int[] {s.seller, s.buyer, s.open, byPrice ? s.price : 1});
        }
        for (int d = 0; d < outside; d++) {
            arcs.add(new int[] {outside, d, (int) st.dealers.get(d).stock, 0});
            arcs.add(new int[] {d, outside, 1_000_000_000, 0});
        }
        int[] flow = new int[arcs.size()];
        while (cancel(n, arcs, flow)) {
            // one more round
        }
        long sum = 0;
        for (int i = 0; i < flow.length; i++) {
            sum += (long) flow[i] * arcs.get(i)[3];
        }
        return sum;
    }

    private static boolean cancel(int n, List<int[]> arcs, int[] flow) {
        long[] gain = new long[n];
        int[] by = new int[n];
        Arrays.fill(by, -1);
        int changed = -1;
        for (int round = 0; round <= n; round++) {
            changed = -1;
            for (int i = 0; i < 2 * arcs.size(); i++) {
                int[] a = arcs.get(i / 2);
                boolean back = i % 2 == 1;
                int from = back ? a[1] : a[0];
                int to = back ? a[0] : a[1];
                int room = back ? flow[i / 2] : a[2] - flow[i / 2];
                long g = back ? -a[3] : a[3];
                if (room > 0 && gain[from] + g > gain[to]) {
                    gain[to] = gain[from] + g;
                    by[to] = i;
                    changed = to;
                }
            }
        }
        if (changed < 0) {
            return false;
        }
        for (int i = 0; i < n; i++) {
            changed = tail(arcs, by[changed]);
        }
        List<Integer> cycle = new ArrayList<>();
        int at = changed;
        do {
            cycle.add(by[at]);
            at = tail(arcs, by[at]);
        } while (at != changed);
        int room = Integer.MAX_VALUE;
        for (int i : cycle) {
            room = Math.min(room, i % 2 == 1 ? flow[i / 2] : arcs.get(i / 2)[2] - flow[i / 2]);
        }
        for (int i : cycle) {
            flow[i / 2] += i % 2 == 1 ? -room : room;
        }
        return true;
    }

    private static int tail(List<int[]> arcs, int i) {
        return i % 2 == 1 ? arcs.get(i / 2)[1] : arcs.get(i / 2)[0];
    }

    // The face of the class, asked of the state.

    State now = new State();
    final Deque<State> past = new ArrayDeque<>();
    final StringBuilder tape = new StringBuilder();
    int faultPlace = -1;
    final int[] refused = new int[3];

    private void need(boolean holds, int reason) {
        if (!holds) {
            refused[reason]++;
            if (reason == 0) {
                throw new NoSuchElementException();
            }
            throw reason == 1 ? new IllegalArgumentException() : new IllegalStateException();
        }
    }

    private static boolean in(int n, int least, int most) {
        return n >= least && n <= most;
    }

    private void act() {
        past.addLast(now.copy());
        if (past.size() > 8) {
            past.removeFirst();
        }
    }

    private void needDealer(int d) {
        need(in(d, 0, now.dealers.size() - 1), 0);
    }

    private void needSale(int s) {
        need(in(s, 0, now.sales.size() - 1), 0);
    }

    long feed(int... numbers) {
        if (tape.length() + 20 > 500) {
            return -1;
        }
        for (int n : numbers) {
            tape.append((char) (n >>> 24)).append((char) (n >> 16 & 255)).append((char) (n >> 8 & 255))
                    .append((char) (n & 255));
        }
        return tape.length();
    }

    long text(int n) {
        need(in(n, 0, tape.length()), 1);
        String text = tape.substring(0, n);
        tape.setLength(0);
        try {
            State told = new Parser(text).all();
            faultPlace = -1;
            act();
            now = told;
            return told.sales.size();
        } catch (Fault f) {
            faultPlace = f.place;
            return f.which - 10;
        }
    }

    long sale(int seller, int buyer, int units, int price, int day) {
        needDealer(seller);
        needDealer(buyer);
        need(seller != buyer && in(units, 1, 1000) && in(price, 1, 10000) && in(day, 0, 999), 1);
        need(now.sales.size() < 24, 2);
        act();
        S s = new S();
        s.number = now.sales.size();
        s.seller = seller;
        s.buyer = buyer;
        s.units = s.open = units;
        s.price = price;
        s.day = day;
        now.sales.add(s);
        return s.number;
    }

    long stock(int d, int units) {
        needDealer(d);
        need(in(units, 0, 100_000), 1);
        act();
        long was = now.dealers.get(d).stock;
        now.dealers.get(d).stock = units;
        return was;
    }

    long mark(int price) {
        need(in(price, 1, 10_000), 1);
        act();
        int was = now.mark;
        now.mark = price;
        return was;
    }

    long night() {
        need(now.day < 5000, 2);
        act();
        return night(now)[0];
    }

    long buyin(int sale, int units) {
        needSale(sale);
        need(now.asked(now.sales.get(sale)), 2);
        need(in(units, 1, now.sales.get(sale).open), 1);
        act();
        buyIn(now, now.order(), sale, units);
        return now.sales.get(sale).open;
    }

    long undo() {
        if (past.isEmpty()) {
            return -1;
        }
        now = past.removeLast();
        return past.size();
    }

    long told(int what) {
        need(in(what, 0, 10), 1);
        return new long[] {now.dealers.size(), now.sales.size(), now.day, now.mark, now.rate, now.lot, now.buyin,
            now.fails().size(), now.failUnits(), tape.length(), past.size()}[what];
    }

    long dealer(int d, int what) {
        needDealer(d);
        need(in(what, 0, 8), 1);
        D x = now.dealers.get(d);
        long sells = 0;
        long buys = 0;
        long own = 0;
        Map<Integer, List<Integer>> stands = stands(now, now.order());
        for (S s : now.fails()) {
            sells += s.seller == d ? s.open : 0;
            buys += s.buyer == d ? s.open : 0;
            own += s.seller == d ? stands.get(s.number).stream().filter(on -> on < 0).count() : 0;
        }
        return new long[] {x.stock, x.cash, x.paid, x.got, sells, buys, own, x.forBuyIns, x.boughtIn}[what];
    }

    long of(int sale, int what) {
        needSale(sale);
        need(in(what, 0, 10), 1);
        S s = now.sales.get(sale);
        return new long[] {s.seller, s.buyer, s.units, s.price, s.day, s.open, s.rung, s.delivered, s.closed,
            now.order().indexOf(s), now.asked(s) ? 1 : 0}[what];
    }

    long rule(int sale) {
        needSale(sale);
        return now.worth(now.sales.get(sale));
    }

    long part(int sale, int i, int what) {
        needSale(sale);
        List<int[]> parts = parts(now, now.order(), sale);
        need(in(i, 0, parts.size() - 1), 0);
        need(in(what, 0, 1), 1);
        return parts.get(i)[what];
    }

    long parts(int sale) {
        needSale(sale);
        return parts(now, now.order(), sale).size();
    }

    long chain(int sale, int i) {
        needSale(sale);
        List<Integer> chain = chain(now, sale);
        need(in(i, 0, chain.size() - 1), 0);
        return chain.get(i);
    }

    long ring(int what) {
        need(in(what, 0, 9), 1);
        List<S> ring = ring(now, now.order());
        if (ring.isEmpty() || what - 2 >= ring.size()) {
            return -1;
        }
        return what == 0 ? ring.size() : what == 1 ? ringUnits(now, ring) : ring.get(what - 2).number;
    }

    long most(int what) {
        need(in(what, 0, 1), 1);
        return most(now, what == 1);
    }

    long foretold(int n) {
        need(in(n, 1, 30), 1);
        State st = now.copy();
        long units = 0;
        for (int i = 0; i < n; i++) {
            if (st.day >= 5000) {
                return 0;
            }
            units = night(st)[1];
        }
        return units;
    }

    long without(int sale) {
        if (sale != -1) {
            needSale(sale);
        }
        State st = now.copy();
        if (sale != -1) {
            st.sales.remove(sale);
            for (int i = 0; i < st.sales.size(); i++) {
                st.sales.get(i).number = i;
            }
        }
        return st.day >= 5000 ? 0 : night(st)[2];
    }

    long between(int seller, int buyer) {
        needDealer(seller);
        needDealer(buyer);
        return now.fails().stream().filter(s -> s.seller == seller && s.buyer == buyer).mapToInt(s -> s.open).sum();
    }

    long mean() {
        double value = now.fails().stream().mapToLong(s -> (long) s.price * s.open).sum();
        return Double.doubleToLongBits(now.failUnits() == 0 ? 0.0 : value / now.failUnits());
    }

    long outside() {
        return now.outside;
    }

    long print() {
        long h = 0;
        for (D d : now.dealers) {
            h = (h * 31 + d.stock) * 31 + d.cash;
        }
        for (S s : now.sales) {
            h = h * 31 + s.open;
        }
        return h;
    }

    long status(int what) {
        return in(what, 0, 2) ? refused[what] : -1;
    }
}
