import java.math.BigInteger;
import java.util.ArrayList;
import java.util.HashSet;
import java.util.List;
import java.util.Set;
import java.util.function.ToLongFunction;
import java.util.regex.Matcher;
import java.util.regex.Pattern;

/**
 * The document once more, written as slowly and as plainly as can be, with all
 * of the Java library: what HouseClearedUp answers is held against it.
 */
public final class HouseModel {
    static final int NONE = -1;

    // ---- what there is

    static final class Sold {
        final int week, lot, bidder, price;
        Sold(int week, int lot, int bidder, int price) {
            this.week = week; this.lot = lot; this.bidder = bidder; this.price = price;
        }
    }

    /** What a step changes. */
    static final class Moving {
        List<Integer> where = new ArrayList<>(), floor = new ArrayList<>(), purse = new ArrayList<>();
        List<List<Integer>> want = new ArrayList<>();
        List<Sold> book = new ArrayList<>();
        int takings = 0, week = 0, x = 211;

        Moving copy() {
            Moving m = new Moving();
            m.where.addAll(where); m.floor.addAll(floor); m.purse.addAll(purse);
            for (List<Integer> row : want) m.want.add(new ArrayList<>(row));
            m.book.addAll(book);
            m.takings = takings; m.week = week; m.x = x;
            return m;
        }
    }

    /** A step: how it was ahead of it, and what was told since. */
    static final class Step {
        Moving ahead;
        List<int[]> toldSince = new ArrayList<>();
        Step copy() {
            Step s = new Step();
            s.ahead = ahead.copy();
            s.toldSince.addAll(toldSince);
            return s;
        }
    }

    static final class All {
        Moving m = new Moving();
        List<int[]> lots = new ArrayList<>(); // worth, weight
        List<Script> texts = new ArrayList<>();
        int ruling = NONE;
        List<Step> steps = new ArrayList<>();
        List<int[]> bundles = new ArrayList<>(), said = new ArrayList<>();
        Set<List<Integer>> stairs = new HashSet<>();
        int[] odds = {10, 0, 0, 0, 0, 0};

        All copy() {
            All a = new All();
            a.m = m.copy();
            a.lots.addAll(lots); a.texts.addAll(texts); a.ruling = ruling;
            for (Step s : steps) a.steps.add(s.copy());
            a.bundles.addAll(bundles); a.said.addAll(said);
            a.stairs.addAll(stairs);
            a.odds = odds.clone();
            return a;
        }
    }

    All all = new All();
    All image;
    byte[] tape = new byte[0];
    int faultKind = NONE, faultPlace = NONE;

    public HouseModel() {
        for (int f = 0; f < 5; f++) all.stairs.add(List.of(f, f + 1));
        image = all.copy();
    }

    // ---- the language

    static final class Fault extends RuntimeException {
        private static final long serialVersionUID = 1;
        final int kind, place;
        Fault(int kind, int place) { super(null, null, false, false); this.kind = kind; this.place = place; }
    }

    static final class Ctx {
        All all; Moving m; int lot, bidder;
    }

    static final class Clause {
        String word; int[] n = new int[3]; ToLongFunction<Ctx> law;
    }

    static final class Script {
        List<Clause> clauses = new ArrayList<>();
        ToLongFunction<Ctx> law(String word) {
            for (Clause c : clauses) if (c.word.equals(word)) return c.law;
            return null;
        }
    }

    static long clamp(long v) { return v > 1000000 ? 1000000 : v < -1000000 ? -1000000 : v; }

    static final class Parser {
        static final Pattern TOKEN = Pattern.compile("[a-zA-Z]+|[0-9]+|<=|>=|[<>=#+*/();-]|[^ \n]", Pattern.DOTALL);
        final List<String> tokens = new ArrayList<>();
        final List<Integer> places = new ArrayList<>();
        int i = 0, open = 0;
        String law = "";

        Parser(byte[] tape) {
            StringBuilder s = new StringBuilder();
            for (byte b : tape) s.append((char) (b & 255));
            Matcher m = TOKEN.matcher(s);
            while (m.find()) { tokens.add(m.group()); places.add(m.start()); }
            tokens.add(""); places.add(tape.length);
        }

        String tok() { return tokens.get(i); }
        boolean is(String... any) { for (String s : any) if (tok().equals(s)) return true; return false; }
        Fault fault(int kind) { return new Fault(kind, places.get(i)); }
        void must(String s) { if (!is(s)) throw fault(1); i++; }
        boolean number() { return !tok().isEmpty() && Character.isDigit(tok().charAt(0)) && tok().charAt(0) < 128; }

        int number(int least, int most) {
            if (!number()) throw fault(1);
            BigInteger v = new BigInteger(tok());
            if (v.compareTo(BigInteger.valueOf(least)) < 0 || v.compareTo(BigInteger.valueOf(most)) > 0) throw fault(2);
            i++;
            return v.intValue();
        }

        Script script() {
            Script s = new Script();
            while (!is("")) {
                if (!is("bids", "reserve", "warms", "lot", "bidder", "want", "sell", "carry", "burn", "buy", "week")) throw fault(1);
                if (is("bids", "reserve", "warms") && s.law(tok()) != null) throw fault(4);
                if (s.clauses.size() == 24) throw fault(6);
                s.clauses.add(clause());
            }
            return s;
        }

        Clause clause() {
            Clause c = new Clause();
            c.word = tok();
            i++;
            if (c.word.equals("bids") || c.word.equals("reserve") || c.word.equals("warms")) { law = c.word; c.law = sum(); }
            if (c.word.equals("lot")) { c.n[0] = number(0, 5); must("worth"); c.n[1] = number(0, 99); must("weight"); c.n[2] = number(1, 9); }
            if (c.word.equals("bidder")) c.n[0] = number(0, 9999);
            if (c.word.equals("want")) { c.n[0] = number(0, 99); must("of"); c.n[1] = number(0, 11); must("by"); c.n[2] = number(0, 4); }
            if (c.word.equals("sell") || c.word.equals("carry") || c.word.equals("burn")) c.n[0] = number(0, 11);
            if (c.word.equals("buy")) { c.n[0] = number(0, 11); must("for"); c.n[1] = number(0, 999); }
            if (c.word.equals("week")) c.n[0] = number(1, 60);
            must(";");
            return c;
        }

        ToLongFunction<Ctx> sum() {
            ToLongFunction<Ctx> a = product();
            while (is("+", "-")) {
                boolean plus = is("+");
                i++;
                ToLongFunction<Ctx> l = a, r = product();
                a = c -> clamp(plus ? l.applyAsLong(c) + r.applyAsLong(c) : l.applyAsLong(c) - r.applyAsLong(c));
            }
            return a;
        }

        ToLongFunction<Ctx> product() {
            ToLongFunction<Ctx> a = one();
            while (is("*", "/")) {
                boolean times = is("*");
                i++;
                ToLongFunction<Ctx> l = a, r = one();
                a = c -> {
                    long x = l.applyAsLong(c), y = r.applyAsLong(c);
                    return clamp(times ? x * y : y == 0 ? 0 : x / y);
                };
            }
            return a;
        }

        void opens() { if (open == 8) throw fault(3); open++; i++; }

        ToLongFunction<Ctx> one() {
            if (number()) { long v = number(0, 9999); return c -> v; }
            String t = tok();
            ToLongFunction<Ctx> got;
            switch (t) {
                case "week": got = c -> c.m.week; break;
                case "floor": got = c -> c.m.floor.get(c.lot); break;
                case "worth": got = c -> c.all.lots.get(c.lot)[0]; break;
                case "weight": got = c -> c.all.lots.get(c.lot)[1]; break;
                case "lot": got = c -> c.lot; break;
                case "want": got = c -> c.m.want.get(c.bidder).get(c.lot); break;
                case "purse": got = c -> c.m.purse.get(c.bidder); break;
                case "who": got = c -> c.bidder; break;
                case "has": got = c -> c.m.where.stream().filter(w -> w == 3 + c.bidder).count(); break;
                default: got = null;
            }
            if (got != null) {
                if (is("want", "purse", "who", "has") && !law.equals("bids")) throw fault(5);
                i++;
                return got;
            }
            if (!is("(", "-", "even", "worths", "if")) throw fault(1);
            opens();
            if (t.equals("(")) { got = sum(); must(")"); }
            if (t.equals("-")) { ToLongFunction<Ctx> a = one(); got = c -> -a.applyAsLong(c); }
            if (t.equals("even")) got = even();
            if (t.equals("worths")) {
                ToLongFunction<Ctx> a = one();
                got = c -> { long v = a.applyAsLong(c); return v >= 0 && v < c.all.lots.size() ? c.all.lots.get((int) v)[0] : 0; };
            }
            if (t.equals("if")) got = when();
            open--;
            return got;
        }

        ToLongFunction<Ctx> even() {
            ToLongFunction<Ctx> a = one();
            must("by");
            ToLongFunction<Ctx> b = one();
            return c -> {
                long x = a.applyAsLong(c), y = Math.abs(b.applyAsLong(c));
                if (y == 0) return 0;
                return x < 0 ? -(-x / y * y) : x / y * y;
            };
        }

        ToLongFunction<Ctx> when() {
            ToLongFunction<Ctx> q = either();
            must("then");
            ToLongFunction<Ctx> a = sum();
            must("else");
            ToLongFunction<Ctx> b = sum();
            must("end");
            return c -> q.applyAsLong(c) != 0 ? a.applyAsLong(c) : b.applyAsLong(c);
        }

        ToLongFunction<Ctx> either() {
            ToLongFunction<Ctx> a = both();
            while (is("or")) {
                i++;
                ToLongFunction<Ctx> l = a, r = both();
                a = c -> l.applyAsLong(c) + r.applyAsLong(c) > 0 ? 1 : 0;
            }
            return a;
        }

        ToLongFunction<Ctx> both() {
            ToLongFunction<Ctx> a = ask();
            while (is("and")) {
                i++;
                ToLongFunction<Ctx> l = a, r = ask();
                a = c -> l.applyAsLong(c) * r.applyAsLong(c);
            }
            return a;
        }

        ToLongFunction<Ctx> ask() {
            if (is("not")) {
                opens();
                ToLongFunction<Ctx> a = ask();
                open--;
                return c -> a.applyAsLong(c) == 0 ? 1 : 0;
            }
            ToLongFunction<Ctx> l = sum();
            String t = tok();
            if (!is("<", "<=", ">", ">=", "=", "#")) throw fault(1);
            i++;
            ToLongFunction<Ctx> r = sum();
            return c -> {
                int k = Long.compare(l.applyAsLong(c), r.applyAsLong(c));
                boolean yes;
                switch (t) {
                    case "<": yes = k < 0; break;
                    case "<=": yes = k <= 0; break;
                    case ">": yes = k > 0; break;
                    case ">=": yes = k >= 0; break;
                    case "=": yes = k == 0; break;
                    default: yes = k != 0;
                }
                return yes ? 1 : 0;
            };
        }
    }

    // ---- laws

    boolean isLot(int lot) { return lot >= 0 && lot < all.lots.size(); }
    boolean isBidder(int b) { return b >= 0 && b < all.m.purse.size(); }
    boolean isText(int t) { return t >= 0 && t < all.texts.size(); }

    long ask(int text, String word, Moving m, int lot, int bidder, long without, long least, long most) {
        ToLongFunction<Ctx> law = text == NONE ? null : all.texts.get(text).law(word);
        Ctx c = new Ctx();
        c.all = all; c.m = m; c.lot = lot; c.bidder = bidder;
        long v = law == null ? without : law.applyAsLong(c);
        return Math.max(least, Math.min(most, v));
    }

    int reserve(Moving m, int lot) { return (int) ask(all.ruling, "reserve", m, lot, NONE, all.lots.get(lot)[0] / 2, 0, 999); }
    int warms(int text, Moving m, int lot) { return (int) ask(text, "warms", m, lot, NONE, 3, 0, 10); }
    int bid(Moving m, int b, int lot) { return (int) ask(all.ruling, "bids", m, lot, b, m.want.get(b).get(lot), 0, m.purse.get(b)); }

    /** Winner and price, or null. */
    int[] auction(Moving m, int lot) {
        if (m.where.get(lot) != 0 || m.purse.isEmpty()) return null;
        int win = 0;
        for (int b = 1; b < m.purse.size(); b++) if (bid(m, b, lot) > bid(m, win, lot)) win = b;
        if (bid(m, win, lot) < reserve(m, lot)) return null;
        int price = reserve(m, lot);
        for (int b = 0; b < m.purse.size(); b++) if (b != win) price = Math.max(price, bid(m, b, lot));
        return new int[] {win, price};
    }

    /** The price, -1 passed in, -2 it can't be. */
    int sold(Moving m, int lot) {
        if (m.where.get(lot) != 0 || m.purse.isEmpty()) return -2;
        int[] a = auction(m, lot);
        if (a == null) return -1;
        m.purse.set(a[0], m.purse.get(a[0]) - a[1]);
        m.takings = Math.min(99999, m.takings + a[1]);
        m.where.set(lot, 3 + a[0]);
        m.book.add(new Sold(m.week, lot, a[0], a[1]));
        if (m.book.size() > 30) m.book.remove(0);
        return a[1];
    }

    static int saleFloor(Moving m) { return Math.min(5, m.week); }

    boolean carried(Moving m, int lot) {
        if (!isLot(lot) || m.where.get(lot) != 0 || m.floor.get(lot) > saleFloor(m) || m.floor.get(lot) == 5) return false;
        m.floor.set(lot, m.floor.get(lot) + 1);
        return true;
    }

    boolean burned(Moving m, int lot) {
        if (!isLot(lot) || m.where.get(lot) > 1) return false;
        m.where.set(lot, 2);
        return true;
    }

    boolean bought(Moving m, int lot, int price) {
        if (!isLot(lot) || m.where.get(lot) < 3 || price < 0 || price > 999 || price > m.takings) return false;
        int b = m.where.get(lot) - 3;
        if (price < m.want.get(b).get(lot)) return false;
        m.takings -= price;
        m.purse.set(b, Math.min(9999, m.purse.get(b) + price));
        m.where.set(lot, 1);
        return true;
    }

    static int anew(int x) { return (int) ((x * 449L + 337) % 30593); }

    int weekOf(Moving m) {
        int sold = 0;
        int at = saleFloor(m);
        for (int lot = 0; lot < all.lots.size(); lot++) {
            if (m.where.get(lot) != 0 || m.floor.get(lot) != at) continue;
            if (!m.purse.isEmpty()) {
                int draw = m.x % 10;
                m.x = anew(m.x);
                if (draw < warms(all.ruling, m, lot)) {
                    List<Integer> row = m.want.get(draw % m.purse.size());
                    row.set(lot, Math.min(99, row.get(lot) + 5));
                }
            }
            if (sold(m, lot) >= 0) sold++;
        }
        m.week++;
        return sold;
    }

    // ---- steps: done on a copy, which then takes the place

    void step(Moving after) {
        Step s = new Step();
        s.ahead = all.m;
        all.steps.add(s);
        if (all.steps.size() > 30) all.steps.remove(0);
        all.m = after;
    }

    void tell(int... what) {
        tellTo(all.m, what);
        for (Step s : all.steps) s.toldSince.add(what);
    }

    /** 0 a lot (floor), 1 a bidder (purse), 2 a want (bidder, lot, want). */
    void tellTo(Moving m, int[] what) {
        if (what[0] == 0) {
            m.where.add(0);
            m.floor.add(what[1]);
            for (List<Integer> row : m.want) row.add(0);
        } else if (what[0] == 1) {
            m.purse.add(what[1]);
            List<Integer> row = new ArrayList<>();
            for (int i = 0; i < m.where.size(); i++) row.add(0);
            m.want.add(row);
        } else {
            m.want.get(what[1]).set(what[2], what[3]);
        }
    }

    // ---- the face

    public int lot(int floor, int worth, int weight) {
        if (floor < 0 || floor > 5 || worth < 0 || worth > 99 || weight < 1 || weight > 9 || all.lots.size() == 12) return NONE;
        all.lots.add(new int[] {worth, weight});
        tell(0, floor);
        return all.lots.size() - 1;
    }

    public int bidder(int purse) {
        if (purse < 0 || purse > 9999 || all.m.purse.size() == 5) return NONE;
        tell(1, purse);
        return all.m.purse.size() - 1;
    }

    public boolean want(int bidder, int lot, int want) {
        if (!isBidder(bidder) || !isLot(lot) || want < 0 || want > 99) return false;
        tell(2, bidder, lot, want);
        return true;
    }

    public int feed(int a, int b, int c, int d, int e) {
        if (tape.length > 280) return NONE;
        java.nio.ByteBuffer more = java.nio.ByteBuffer.allocate(tape.length + 20);
        more.put(tape).putInt(a).putInt(b).putInt(c).putInt(d).putInt(e);
        tape = more.array();
        return tape.length;
    }

    public int end(int n) {
        if (n < 0 || n > tape.length) return NONE;
        tape = java.util.Arrays.copyOf(tape, n);
        return n;
    }

    public int text() {
        if (all.texts.size() == 4) return NONE;
        byte[] bytes = tape;
        tape = new byte[0];
        try {
            all.texts.add(new Parser(bytes).script());
            faultKind = 0;
            faultPlace = NONE;
            return all.texts.size() - 1;
        } catch (Fault f) {
            faultKind = f.kind;
            faultPlace = f.place;
            return NONE;
        }
    }

    public int fault(int what) { return what == 0 ? faultKind : what == 1 ? faultPlace : NONE; }

    public boolean by(int text) {
        if (text != NONE && !isText(text)) return false;
        all.ruling = text;
        return true;
    }

    public int sell(int lot) {
        if (!isLot(lot)) return -2;
        Moving m = all.m.copy();
        int price = sold(m, lot);
        if (price != -2) step(m);
        return price;
    }

    public boolean carry(int lot) {
        Moving m = all.m.copy();
        if (!carried(m, lot)) return false;
        step(m);
        return true;
    }

    public boolean burn(int lot) {
        Moving m = all.m.copy();
        if (!burned(m, lot)) return false;
        step(m);
        return true;
    }

    public boolean buy(int lot, int price) {
        Moving m = all.m.copy();
        if (!bought(m, lot, price)) return false;
        step(m);
        return true;
    }

    public int week(int n) {
        if (n < 1 || n > 60 || all.m.week + n > 9999) return NONE;
        int sold = 0;
        for (int i = 0; i < n; i++) {
            Moving m = all.m.copy();
            sold += weekOf(m);
            step(m);
        }
        return sold;
    }

    public int played(int text) {
        if (!isText(text)) return -2;
        List<Clause> clauses = all.texts.get(text).clauses;
        for (int i = 0; i < clauses.size(); i++) {
            Clause c = clauses.get(i);
            int a = c.n[0], b = c.n[1], d = c.n[2];
            boolean done = true;
            if (c.word.equals("lot")) done = lot(a, b, d) != NONE;
            if (c.word.equals("bidder")) done = bidder(a) != NONE;
            if (c.word.equals("want")) done = want(d, b, a);
            if (c.word.equals("sell")) done = sell(a) != -2;
            if (c.word.equals("carry")) done = carry(a);
            if (c.word.equals("burn")) done = burn(a);
            if (c.word.equals("buy")) done = buy(a, b);
            if (c.word.equals("week")) for (int w = 0; w < a && done; w++) done = week(1) != NONE;
            if (!done) return i;
        }
        return NONE;
    }

    public int years(int seed, int n) {
        if (seed < 0 || seed > 9999 || n < 1 || n > 40) return NONE;
        Moving m = all.m.copy();
        m.x = seed * 2 + 211;
        for (int i = 0; i < n; i++) {
            int x = m.x;
            m.x = anew(x);
            int many = all.lots.size();
            if (x % 6 >= 4 && m.week < 9999) weekOf(m);
            if (many == 0) continue;
            if (x % 6 == 0) sold(m, x % many);
            if (x % 6 == 1) carried(m, x % many);
            if (x % 6 == 2 && x % 8 == 2) burned(m, x % many);
            if (x % 6 == 3) bought(m, x % many, 20 + x % 30);
        }
        step(m);
        return m.week;
    }

    public int undo() {
        if (all.steps.isEmpty()) return NONE;
        Step s = all.steps.remove(all.steps.size() - 1);
        all.m = s.ahead;
        for (int[] what : s.toldSince) tellTo(all.m, what);
        return all.steps.size();
    }

    public int of(int lot, int what) {
        if (!isLot(lot) || what < 0 || what > 7) return -2;
        int[] a = auction(all.m, lot);
        int[] answers = {all.m.floor.get(lot), all.lots.get(lot)[0], all.lots.get(lot)[1], all.m.where.get(lot),
            reserve(all.m, lot), warms(all.ruling, all.m, lot), a == null ? NONE : a[0], a == null ? NONE : a[1]};
        return answers[what];
    }

    public int ofBidder(int bidder, int what) {
        if (!isBidder(bidder) || what < 0 || what > 2) return -2;
        int bits = 0, wants = 0;
        for (int lot = 0; lot < all.lots.size(); lot++) {
            if (all.m.where.get(lot) == 3 + bidder) {
                bits += 1 << lot;
                wants += all.m.want.get(bidder).get(lot);
            }
        }
        return new int[] {all.m.purse.get(bidder), bits, wants}[what];
    }

    public int bids(int bidder, int lot) { return isBidder(bidder) && isLot(lot) ? bid(all.m, bidder, lot) : NONE; }

    public int is(int what) {
        if (what < 0 || what > 4) return -2;
        return new int[] {all.m.week, all.m.takings, all.m.x, saleFloor(all.m), left(saleFloor(all.m))}[what];
    }

    public int book(int i, int what) {
        if (i == NONE) return all.m.book.size();
        if (i < 0 || i >= all.m.book.size() || what < 0 || what > 3) return -2;
        Sold s = all.m.book.get(i);
        return new int[] {s.week, s.lot, s.bidder, s.price}[what];
    }

    public int foretold(int n, int what, int lot) {
        if (n < 1 || n > 60 || what < 0 || what > 2 || what == 1 && !isLot(lot)) return -2;
        Moving m = all.m.copy();
        int sold = 0;
        for (int i = 0; i < n && m.week < 9999; i++) sold += weekOf(m);
        return what == 0 ? m.takings : what == 1 ? m.where.get(lot) : sold;
    }

    public int order(int lots, int i) {
        if (lots <= 0 || lots >= 1 << all.lots.size() || Integer.bitCount(lots) > 5) return -2;
        List<Integer> rest = new ArrayList<>();
        for (int lot = 0; lot < 12; lot++) if ((lots & 1 << lot) != 0) rest.add(lot);
        for (int lot : rest) if (all.m.where.get(lot) != 0) return -2;
        if (i < NONE || i >= rest.size()) return -2;
        List<List<Integer>> orders = new ArrayList<>();
        permute(new ArrayList<>(), rest, orders);
        int most = -1;
        List<Integer> best = null;
        for (List<Integer> one : orders) {
            Moving m = all.m.copy();
            int sum = 0;
            for (int lot : one) sum += Math.max(0, sold(m, lot));
            if (sum > most) { most = sum; best = one; }
        }
        return i == NONE ? most : best.get(i);
    }

    static void permute(List<Integer> head, List<Integer> rest, List<List<Integer>> to) {
        if (rest.isEmpty()) to.add(head);
        for (Integer one : rest) {
            List<Integer> h = new ArrayList<>(head), r = new ArrayList<>(rest);
            h.add(one);
            r.remove(one);
            permute(h, r, to);
        }
    }

    public int bundle(int bidder, int lots, int price) {
        if (bidder == NONE) { all.bundles.clear(); return 0; }
        if (!isBidder(bidder) || lots <= 0 || lots >= 1 << all.lots.size() || price < 0 || price > 9999 || all.bundles.size() == 8) return -2;
        all.bundles.add(new int[] {bidder, lots, price});
        return all.bundles.size();
    }

    /** Of sets that can be: the prices together and the set that is best, those of one bidder left out. */
    int[] bestSet(int without) {
        int[] best = {0, 0};
        for (int set = 0; set < 1 << all.bundles.size(); set++) {
            int sum = 0;
            boolean can = true;
            for (int i = 0; i < all.bundles.size(); i++) {
                if ((set & 1 << i) == 0) continue;
                int[] p = all.bundles.get(i);
                sum += p[2];
                can &= p[0] != without;
                for (int j = 0; j < i; j++) {
                    if ((set & 1 << j) == 0) continue;
                    int[] q = all.bundles.get(j);
                    can &= p[0] != q[0] && (p[1] & q[1]) == 0;
                }
            }
            if (can && sum > best[0]) best = new int[] {sum, set};
        }
        return best;
    }

    public int winners(boolean price) { return bestSet(NONE)[price ? 0 : 1]; }

    public int pays(int bidder) {
        if (!isBidder(bidder)) return NONE;
        int others = 0;
        int set = bestSet(NONE)[1];
        for (int i = 0; i < all.bundles.size(); i++) {
            if ((set & 1 << i) != 0 && all.bundles.get(i)[0] != bidder) others += all.bundles.get(i)[2];
        }
        return bestSet(bidder)[0] - others;
    }

    public int kept(int k, boolean worth) {
        if (k < 1 || k > 12) return NONE;
        int best = 0, most = 0;
        for (int set = 0; set < 1 << all.lots.size(); set++) {
            int sum = 0;
            boolean can = true;
            for (int lot = 0; lot < all.lots.size(); lot++) {
                if ((set & 1 << lot) == 0) continue;
                sum += all.lots.get(lot)[0];
                can &= all.m.where.get(lot) == 0 && all.m.floor.get(lot) >= saleFloor(all.m);
            }
            if (!can || !taken(set, k)) continue;
            if (sum > most || sum == most && Integer.bitCount(set) < Integer.bitCount(best)) { most = sum; best = set; }
        }
        return worth ? most : best;
    }

    /** Week by week, those whose last week comes first are taken first. */
    boolean taken(int set, int k) {
        int rest = set;
        int week = 0;
        while (rest != 0) {
            for (int i = 0; i < k && rest != 0; i++) {
                int next = NONE;
                for (int lot = 0; lot < all.lots.size(); lot++) {
                    if ((rest & 1 << lot) != 0 && (next == NONE || all.m.floor.get(lot) < all.m.floor.get(next))) next = lot;
                }
                if (all.m.floor.get(next) - saleFloor(all.m) < week) return false;
                rest -= 1 << next;
            }
            week++;
        }
        return true;
    }

    static List<Integer> pair(int a, int b) { return List.of(Math.min(a, b), Math.max(a, b)); }
    static boolean floors(int a, int b) { return a >= 0 && a <= 5 && b >= 0 && b <= 5; }

    public boolean stair(int a, int b) { return floors(a, b) && a != b && all.stairs.add(pair(a, b)); }
    public boolean gone(int a, int b) { return floors(a, b) && all.stairs.remove(pair(a, b)); }

    static int far(Set<List<Integer>> stairs, int a, int b) {
        int[] d = new int[6];
        java.util.Arrays.fill(d, 99);
        d[a] = 0;
        for (int round = 0; round < 6; round++) {
            for (List<Integer> s : stairs) {
                d[s.get(0)] = Math.min(d[s.get(0)], d[s.get(1)] + 1);
                d[s.get(1)] = Math.min(d[s.get(1)], d[s.get(0)] + 1);
            }
        }
        return d[b] > 50 ? NONE : d[b];
    }

    static int parts(Set<List<Integer>> stairs) {
        int many = 0;
        for (int f = 0; f < 6; f++) {
            boolean first = true;
            for (int g = 0; g < f; g++) first &= far(stairs, g, f) == NONE;
            if (first) many++;
        }
        return many;
    }

    public int climb(int a, int b) { return floors(a, b) ? far(all.stairs, a, b) : NONE; }

    public int cut(int a, int b) {
        if (!floors(a, b) || a == b) return NONE;
        List<List<Integer>> list = new ArrayList<>(all.stairs);
        int least = 99;
        for (int out = 0; out < 1 << list.size(); out++) {
            if (Integer.bitCount(out) >= least) continue;
            Set<List<Integer>> rest = new HashSet<>();
            for (int i = 0; i < list.size(); i++) if ((out & 1 << i) == 0) rest.add(list.get(i));
            if (far(rest, a, b) == NONE) least = Integer.bitCount(out);
        }
        return least;
    }

    public int bridges() {
        int many = 0;
        for (List<Integer> s : all.stairs) {
            Set<List<Integer>> rest = new HashSet<>(all.stairs);
            rest.remove(s);
            if (parts(rest) > parts(all.stairs)) many++;
        }
        return many;
    }

    public boolean odds(int level, int odds) {
        if (level < 0 || level > 5 || odds < 0 || odds > 10) return false;
        all.odds[level] = odds;
        return true;
    }

    /** The mean as a fraction in lowest terms, or null. */
    BigInteger[] mean(int n) {
        int sum = 0;
        for (int o : all.odds) sum += o;
        if (n < 0 || n > 6 || sum != 10) return null;
        BigInteger[] v = {BigInteger.ZERO, BigInteger.ONE};
        for (int i = 0; i < n; i++) {
            BigInteger up = BigInteger.ZERO;
            for (int level = 0; level < 6; level++) {
                up = up.add(v[0].max(v[1].multiply(BigInteger.valueOf(10 * level))).multiply(BigInteger.valueOf(all.odds[level])));
            }
            BigInteger low = v[1].multiply(BigInteger.TEN);
            BigInteger g = up.gcd(low);
            v = new BigInteger[] {up.divide(g), low.divide(g)};
        }
        return v;
    }

    public long leave(int n, boolean low) {
        BigInteger[] v = mean(n);
        return v == null ? NONE : v[low ? 1 : 0].longValue();
    }

    public int takes(int n, int level) {
        BigInteger[] v = mean(n);
        if (v == null || level < 0 || level > 5) return NONE;
        return v[1].multiply(BigInteger.valueOf(10 * level)).compareTo(v[0]) >= 0 ? 1 : 0;
    }

    /** The sets, or null. */
    List<Integer> ashes(int weight, int many) {
        if (weight < 0 || weight > 108 || many < 0 || many > 12) return null;
        List<Integer> sets = new ArrayList<>();
        for (int set = 0; set < 1 << all.lots.size(); set++) {
            int w = 0;
            boolean can = Integer.bitCount(set) == many;
            for (int lot = 0; lot < all.lots.size(); lot++) {
                if ((set & 1 << lot) == 0) continue;
                w += all.lots.get(lot)[1];
                can &= all.m.where.get(lot) == 0 || all.m.where.get(lot) == 2;
            }
            if (can && w == weight) sets.add(set);
        }
        return sets;
    }

    public int ash(int weight, int many) {
        List<Integer> sets = ashes(weight, many);
        return sets == null ? NONE : sets.size();
    }

    public int burnt(int weight, int many, boolean every) {
        List<Integer> sets = ashes(weight, many);
        if (sets == null) return NONE;
        if (sets.isEmpty()) return 0;
        int bits = 0;
        for (int lot = 0; lot < all.lots.size(); lot++) {
            int in = 0;
            for (int set : sets) in += set >> lot & 1;
            boolean could = all.m.where.get(lot) == 0 || all.m.where.get(lot) == 2;
            if (every ? in == sets.size() : in == 0 && could) bits |= 1 << lot;
        }
        return bits;
    }

    public int said(int lot, int warms) {
        if (lot == NONE) { all.said.clear(); return 0; }
        if (!isLot(lot) || warms < 0 || warms > 10 || all.said.size() == 8) return -2;
        all.said.add(new int[] {lot, warms});
        return all.said.size();
    }

    public int whose() {
        int bits = 0;
        for (int t = 0; t < all.texts.size(); t++) {
            boolean so = true;
            for (int[] s : all.said) so &= warms(t, all.m, s[0]) == s[1];
            if (so) bits |= 1 << t;
        }
        return bits;
    }

    public int dearest() {
        int best = NONE;
        for (int lot = 0; lot < all.lots.size(); lot++) if (of(lot, 7) > Math.max(0, best == NONE ? 0 : of(best, 7))) best = lot;
        return best;
    }

    public int left(int floor) {
        if (floor < 0 || floor > 5) return NONE;
        int bits = 0;
        for (int lot = 0; lot < all.lots.size(); lot++) {
            if (all.m.where.get(lot) == 0 && all.m.floor.get(lot) == floor) bits |= 1 << lot;
        }
        return bits;
    }

    public int ledger(int bidder) {
        if (bidder != NONE && !isBidder(bidder)) return -2;
        return all.m.book.stream().filter(s -> bidder == NONE || s.bidder == bidder).mapToInt(s -> s.price).sum();
    }

    public int richest() {
        int best = NONE;
        for (int b = all.m.purse.size() - 1; b >= 0; b--) if (best == NONE || all.m.purse.get(b) >= all.m.purse.get(best)) best = b;
        return best;
    }

    public int image() {
        image = all.copy();
        return all.m.week;
    }

    public int back() {
        all = image.copy();
        return all.m.week;
    }

    public int about(int what) {
        if (what < 0 || what > 7) return -2;
        return new int[] {all.lots.size(), all.m.purse.size(), all.texts.size(), all.ruling, all.steps.size(),
            all.bundles.size(), all.said.size(), tape.length}[what];
    }
}
