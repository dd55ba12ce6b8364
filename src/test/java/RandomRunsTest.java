import java.lang.reflect.Method;
import java.lang.reflect.Modifier;
import java.nio.charset.StandardCharsets;
import java.util.ArrayList;
import java.util.Arrays;
import java.util.Comparator;
import java.util.List;
import java.util.Random;
import java.util.TreeMap;

/** Random runs of calls: the program and the model must answer alike. */
public final class RandomRunsTest {
    private static final int CALLS = 512;
    private static final List<Method> FACE = face();
    private static final TreeMap<String, Integer> SEEN = new TreeMap<>();
    private static int wrong = 0;

    private final Random random;
    private final int sort;
    private final HouseClearedUp program = new HouseClearedUp();
    private final HouseModel model = new HouseModel();
    private final List<String> log = new ArrayList<>();
    private int calls = 0;
    private boolean differs = false;

    private RandomRunsTest(long seed) {
        random = new Random(seed);
        sort = random.nextInt(6);
    }

    public static void main(String[] args) throws Exception {
        int runs = args.length > 0 ? Integer.parseInt(args[0]) : 1500;
        long first = args.length > 1 ? Long.parseLong(args[1]) : 1;
        for (long seed = first; seed < first + runs && wrong < 5; seed++) {
            RandomRunsTest run = new RandomRunsTest(seed);
            run.play();
            if (run.differs) {
                wrong++;
                System.out.println("seed " + seed + ":");
                for (String line : run.log) System.out.println("  " + line);
            }
        }
        if (args.length > 2) System.out.println(SEEN);
        System.out.println(wrong == 0 ? runs + " random runs are as the model has it" : wrong + " runs are not as the model has it");
        if (wrong != 0) System.exit(1);
    }

    private static List<Method> face() {
        List<Method> face = new ArrayList<>();
        for (Method m : HouseClearedUp.class.getDeclaredMethods()) if (Modifier.isPublic(m.getModifiers())) face.add(m);
        face.sort(Comparator.comparing(Method::getName));
        return face;
    }

    private long answerOf(Object target, String name, Class<?>[] types, Object[] values) throws Exception {
        Object got = target.getClass().getMethod(name, types).invoke(target, values);
        return got instanceof Boolean ? ((Boolean) got ? 1 : 0) : ((Number) got).longValue();
    }

    private long call(String name, Object... values) throws Exception {
        Class<?>[] types = new Class<?>[values.length];
        for (int i = 0; i < values.length; i++) types[i] = values[i] instanceof Boolean ? boolean.class : int.class;
        long got = answerOf(program, name, types, values);
        long due = answerOf(model, name, types, values);
        calls++;
        SEEN.merge(name + (due == -2 ? " -2" : due == -1 ? " -1" : due == 0 ? " 0" : " +"), 1, Integer::sum);
        log.add(name + Arrays.toString(values) + " = " + got + (got == due ? "" : ", the model: " + due));
        if (got != due) differs = true;
        return due;
    }

    // ---- a run

    private void play() throws Exception {
        int lots = random.nextInt(13), bidders = random.nextInt(6);
        if (random.nextInt(8) != 0) {
            for (int i = 0; i < lots; i++) call("lot", random.nextInt(random.nextBoolean() ? 6 : 3), random.nextInt(100), 1 + random.nextInt(9));
            for (int i = 0; i < bidders; i++) call("bidder", random.nextInt(sort == 0 ? 10000 : sort == 1 ? 60 : 400));
            for (int b = 0; b < bidders; b++) for (int l = 0; l < lots; l++) if (random.nextInt(3) != 0) call("want", b, l, random.nextInt(100));
        }
        if (sort == 4 && random.nextBoolean()) untilLateWeeks();
        while (calls < CALLS && !differs) {
            if (random.nextInt(12) == 0) feedText();
            else if (sort == 3 && random.nextInt(3) == 0) call("week", 60);
            else any();
            if (random.nextInt(6) == 0) look();
        }
    }

    /** Near or at week 9999, where no week can pass any more. */
    private void untilLateWeeks() throws Exception {
        StringBuilder s = new StringBuilder();
        for (int i = 0; i < 24; i++) s.append("week 60;");
        feed(s.toString());
        int number = (int) call("text");
        for (int i = 0; i < 6; i++) call("played", number);
        for (int i = 0; i < 22; i++) call("week", 60);
        call("week", random.nextInt(61));
        call("is", 0);
    }

    private void any() throws Exception {
        Method m = FACE.get(random.nextInt(FACE.size()));
        String name = m.getName();
        if ((name.equals("back") || name.equals("end") || name.equals("text")) && random.nextInt(6) != 0) return;
        if ((name.equals("order") || name.equals("odds") || name.equals("stair") || name.equals("buy")) && random.nextBoolean()) {
            often(name);
            return;
        }
        boolean wild = random.nextInt(8) == 0;
        Object[] values = new Object[m.getParameterCount()];
        for (int i = 0; i < values.length; i++) {
            if (m.getParameterTypes()[i] == boolean.class) values[i] = random.nextBoolean();
            else values[i] = wild ? number() : likely(name, i);
        }
        call(name, values);
    }

    /** A number that the document lets stand there, most of the time. */
    private int likely(String name, int i) {
        int lots = model.all.lots.size(), bidders = model.all.m.purse.size(), texts = model.all.texts.size();
        int lot = random.nextInt(lots + 1 - (lots > 0 && random.nextInt(8) != 0 ? 1 : 0));
        int bidder = random.nextInt(bidders + 1 - (bidders > 0 && random.nextInt(8) != 0 ? 1 : 0));
        switch (name) {
            case "lot": return i == 0 ? random.nextInt(6) : i == 1 ? random.nextInt(100) : 1 + random.nextInt(9);
            case "bidder": return random.nextInt(10000);
            case "want": return i == 0 ? bidder : i == 1 ? lot : random.nextInt(100);
            case "by": case "played": return random.nextInt(texts + 1);
            case "sell": case "carry": case "burn": return lot;
            case "buy": return i == 0 ? lot : random.nextInt(200);
            case "of": return i == 0 ? lot : random.nextInt(8);
            case "ofBidder": return i == 0 ? bidder : random.nextInt(3);
            case "bids": return i == 0 ? bidder : lot;
            case "foretold": return i == 0 ? 1 + random.nextInt(60) : i == 1 ? random.nextInt(3) : lot;
            case "bundle": return i == 0 ? bidder : i == 1 ? (random.nextInt(1 << 12) & random.nextInt(1 << 12)) & (1 << lots) - 1 : random.nextInt(sort < 3 ? 4 : 9999);
            case "pays": case "ledger": return bidder - (random.nextInt(9) == 0 ? 1 : 0);
            case "kept": return 1 + random.nextInt(random.nextBoolean() ? 12 : 3);
            case "said": return i == 0 ? lot : random.nextInt(3) == 0 ? 3 : random.nextInt(11);
            case "ash": case "burnt": return i == 0 ? random.nextInt(30) : random.nextInt(5);
            case "week": return 1 + random.nextInt(random.nextInt(4) == 0 ? 60 : 2);
            case "years": return i == 0 ? random.nextInt(10000) : 1 + random.nextInt(40);
            case "book": return i == 0 ? random.nextInt(model.all.m.book.size() + 1) - 1 : random.nextInt(4);
            default: return number();
        }
    }

    private int number() {
        switch (random.nextInt(16)) {
            case 0: return new int[] {Integer.MIN_VALUE, Integer.MAX_VALUE, -2, -3, 10000, 9999, 1 << 12, 31, 32}[random.nextInt(9)];
            case 1: return -1;
            case 2: return random.nextInt(13);
            case 3: return random.nextInt(110);
            case 4: return random.nextInt(4096);
            case 5: return random.nextInt(62);
            case 6: return random.nextInt();
            default: return random.nextInt(6);
        }
    }

    private void often(String name) throws Exception {
        if (name.equals("buy")) {
            for (int lot = 0; lot < model.all.lots.size(); lot++) {
                int where = model.all.m.where.get(lot);
                if (where >= 3) call("buy", lot, model.all.m.want.get(where - 3).get(lot) + random.nextInt(4) - 1);
            }
        } else if (name.equals("order")) {
            int set = 0;
            for (int i = 0; i < 5; i++) set |= 1 << random.nextInt(12);
            set &= random.nextInt(1 << Math.min(12, 1 + model.all.lots.size()));
            for (int i = -1; i < Integer.bitCount(set); i++) call("order", set, i);
        } else if (name.equals("odds")) {
            int[] odds = new int[6];
            for (int i = 0; i < 10; i++) odds[random.nextInt(6)]++;
            for (int i = 0; i < 6; i++) call("odds", i, odds[i]);
            int n = random.nextInt(8);
            call("leave", n, false);
            call("leave", n, true);
            call("takes", n, random.nextInt(6));
        } else {
            call("stair", random.nextInt(6), random.nextInt(6));
            call("bridges");
            call("cut", random.nextInt(6), random.nextInt(6));
        }
    }

    /** A look at all that moves, so that a difference shows soon. */
    private void look() throws Exception {
        for (int what = 0; what < 5; what++) call("is", what);
        int lot = random.nextInt(12);
        for (int what = 0; what < 8; what++) call("of", lot, what);
        for (int what = 0; what < 3; what++) call("ofBidder", random.nextInt(5), what);
        call("book", -1, 0);
        call("book", random.nextInt(30), random.nextInt(4));
        call("bids", random.nextInt(5), lot);
        call("about", 4);
    }

    // ---- texts

    private void feedText() throws Exception {
        StringBuilder s = new StringBuilder();
        int clauses = random.nextInt(10) == 0 ? 26 : 1 + random.nextInt(8);
        for (int i = 0; i < clauses; i++) clause(s);
        if (random.nextInt(8) == 0) deep(s);
        String text = s.toString();
        if (random.nextInt(3) == 0) text = spoil(text);
        if (text.length() > 300) text = text.substring(0, random.nextInt(4) == 0 ? 300 : text.lastIndexOf(';', 299) + 1);
        feed(text);
        long number = call("text");
        call("fault", 0);
        call("fault", 1);
        call("about", 7);
        if (number >= 0) {
            if (random.nextBoolean()) call("by", (int) number);
            if (random.nextBoolean()) call("played", (int) number);
        } else if (call("about", 2) == 4 && random.nextInt(4) == 0) {
            call("back");
        }
    }

    private void feed(String text) throws Exception {
        byte[] bytes = Arrays.copyOf(text.getBytes(StandardCharsets.ISO_8859_1), (text.length() + 19) / 20 * 20);
        java.nio.IntBuffer ints = java.nio.ByteBuffer.wrap(bytes).asIntBuffer();
        call("end", 0);
        while (ints.hasRemaining()) call("feed", ints.get(), ints.get(), ints.get(), ints.get(), ints.get());
        call("end", text.length());
        log.add("text: " + text);
    }

    private String spoil(String text) {
        String[] bits = {"bids", "not", "(", ")", "-", "even", "worths", "if", "want", "10000", "7", ";", "end", "\t", "\u00e9", "<", "lot", "x", "by", "12", " ", "\n", "0", "=", "Week", "and", "then", "@"};
        StringBuilder s = new StringBuilder(text);
        for (int i = 1 + random.nextInt(2); i > 0; i--) {
            int at = random.nextInt(s.length() + 1);
            if (random.nextBoolean()) s.insert(at, bits[random.nextInt(bits.length)]);
            else if (at < s.length()) s.delete(at, Math.min(s.length(), at + 1 + random.nextInt(4)));
        }
        return s.toString();
    }

    /** Eight or nine that are open around one another. */
    private void deep(StringBuilder s) {
        StringBuilder close = new StringBuilder();
        s.insert(0, "#");
        StringBuilder head = new StringBuilder("bids ");
        for (int i = 7 + random.nextInt(3); i > 0; i--) {
            switch (random.nextInt(7)) {
                case 0: head.append('('); close.insert(0, ')'); break;
                case 1: head.append("- "); break;
                case 2: head.append("worths "); break;
                case 3: head.append("even "); close.insert(0, " by 3"); break;
                case 4: head.append("even 7 by "); break;
                case 5: head.append("if not "); i--; close.insert(0, "<5 then 1 else 2 end"); break;
                default: head.append("1+if 2="); close.insert(0, " then lot else has end"); break;
            }
        }
        s.replace(0, 1, head + "9" + close + ";");
    }

    private String blank() { return random.nextInt(10) == 0 ? "\n " : " "; }

    private void clause(StringBuilder s) {
        int lot = random.nextInt(Math.max(1, Math.min(12, model.all.lots.size() + (random.nextInt(9) == 0 ? 1 : 0))));
        switch (random.nextInt(13)) {
            case 0: case 1: s.append("bids").append(blank()); sum(s, 3, true); break;
            case 2: s.append("reserve").append(blank()); sum(s, 3, false); break;
            case 3: s.append("warms").append(blank()); sum(s, 3, false); break;
            case 4: s.append("lot ").append(random.nextInt(6)).append(" worth ").append(random.nextInt(100)).append(" weight ").append(1 + random.nextInt(9)); break;
            case 5: s.append("bidder ").append(random.nextInt(10000)); break;
            case 6: s.append("want ").append(random.nextInt(100)).append(" of ").append(lot).append(" by ").append(random.nextInt(5)); break;
            case 7: case 8: s.append("sell ").append(lot); break;
            case 9: s.append("carry ").append(lot); break;
            case 10: s.append("burn ").append(lot); break;
            case 11: s.append("buy ").append(lot).append(" for ").append(random.nextInt(120)); break;
            default: s.append("week ").append(random.nextInt(4) == 0 ? random.nextInt(61) : 1 + random.nextInt(3)); break;
        }
        s.append(';');
    }

    private void sum(StringBuilder s, int depth, boolean bids) {
        product(s, depth, bids);
        for (int i = random.nextInt(3); i > 1; i--) { s.append(random.nextBoolean() ? "+" : "-"); product(s, depth, bids); }
    }

    private void product(StringBuilder s, int depth, boolean bids) {
        one(s, depth, bids);
        for (int i = random.nextInt(3); i > 1; i--) { s.append(random.nextBoolean() ? "*" : "/"); one(s, depth, bids); }
    }

    private void one(StringBuilder s, int depth, boolean bids) {
        String[] names = {"week", "floor", "worth", "weight", "lot", "want", "purse", "who", "has"};
        int deeper = depth + (random.nextInt(3) == 0 ? 0 : -1);
        switch (random.nextInt(depth > 0 ? 9 : 4)) {
            case 0: case 1: s.append(random.nextInt(random.nextInt(4) == 0 ? 10001 : 20)); break;
            case 2: case 3: s.append(' ').append(names[random.nextInt(bids || random.nextInt(20) == 0 ? 9 : 5)]).append(blank()); break;
            case 4: s.append('('); sum(s, deeper, bids); s.append(')'); break;
            case 5: s.append('-'); one(s, deeper, bids); break;
            case 6: s.append(" even "); one(s, deeper, bids); s.append(" by "); one(s, deeper, bids); break;
            case 7: s.append(" worths "); one(s, deeper, bids); break;
            default:
                s.append(" if "); either(s, deeper, bids); s.append(" then "); sum(s, deeper, bids);
                s.append(" else "); sum(s, deeper, bids); s.append(" end "); break;
        }
    }

    private void either(StringBuilder s, int depth, boolean bids) {
        String[] signs = {"<", "<=", ">", ">=", "=", "#"};
        for (int i = random.nextInt(3); i >= 0; i--) {
            if (random.nextInt(4) == 0) s.append(" not ");
            sum(s, depth, bids);
            s.append(signs[random.nextInt(6)]);
            sum(s, depth, bids);
            if (i > 0) s.append(random.nextBoolean() ? " or " : " and ");
        }
    }
}
