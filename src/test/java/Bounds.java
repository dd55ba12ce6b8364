import java.nio.ByteBuffer;
import java.nio.IntBuffer;
import java.nio.charset.StandardCharsets;
import java.util.ArrayList;
import java.util.Arrays;
import java.util.List;
import java.util.function.Supplier;

/** What the tests of the bounds share: sentences, houses to try them on, and a look at all that a house is. */
final class Bounds {
    static final int LOW = Integer.MIN_VALUE, HIGH = Integer.MAX_VALUE;
    private static String words = "";
    private static int sentences = 0;
    private static int wrong = 0;

    private Bounds() { }

    interface Call { long on(HouseClearedUp x); }

    interface CallOf { long on(HouseClearedUp x, int n); }

    // ---- sentences

    /** A sentence of the document, with a test of its own. */
    static void sentence(String said, Runnable test) {
        words = said;
        sentences++;
        test.run();
    }

    static void due(String call, long got, long want) {
        if (got == want) return;
        wrong++;
        System.out.println("[" + words + "] " + call + " answered " + got + ", due is " + want);
    }

    static void due(String call, boolean got, boolean want) { due(call, got ? 1 : 0, want ? 1 : 0); }

    static void end() {
        System.out.println(wrong == 0 ? sentences + " sentences hold" : wrong + " answers are not as due");
        if (wrong != 0) System.exit(1);
    }

    static long bit(boolean b) { return b ? 1 : 0; }

    // ---- refused calls

    /** The call answers so, and all is as if it had not been made. */
    static void refused(String call, Supplier<HouseClearedUp> made, Call c, long answer) { look(call, made, c, answer, 4); }

    /** As refused, but that the image may be another one. */
    static void asNow(String call, Supplier<HouseClearedUp> made, Call c, long answer) { look(call, made, c, answer, 3); }

    private static void look(String call, Supplier<HouseClearedUp> made, Call c, long answer, int parts) {
        for (int part = 0; part < parts; part++) {
            HouseClearedUp tried = made.get(), left = made.get();
            due(call, c.on(tried), answer);
            List<Long> got = look(tried, part), want = look(left, part);
            if (!got.equals(want)) due(call + " changed something, look " + part + ",", differs(got, want), -1);
        }
    }

    /** As refused, for a call whose number is not from least to most; those two are taken. */
    static void bounded(String call, Supplier<HouseClearedUp> made, CallOf c, int least, int most, long refusal) {
        for (int n : new int[] {least, most}) {
            if (c.on(made.get(), n) == refusal) due(call + " of " + n, refusal, n);
        }
        for (int n : new int[] {least - 1, most + 1, LOW, HIGH}) refused(call + " of " + n, made, x -> c.on(x, n), refusal);
    }

    /** A question, whatever it answers, leaves all as it is. */
    static void asksOnly(String call, Supplier<HouseClearedUp> made, Call c) {
        refused(call, made, c, c.on(made.get()));
    }

    private static int differs(List<Long> got, List<Long> want) {
        int at = 0;
        while (at < got.size() && at < want.size() && got.get(at).equals(want.get(at))) at++;
        return at;
    }

    // ---- a look at all that a house is; in parts, since an object has but 512 calls

    private static List<Long> look(HouseClearedUp x, int part) {
        List<Long> seen = new ArrayList<>();
        switch (part) {
            case 0: lookAtLots(x, seen); break;
            case 1: lookAtAnswers(x, seen); break;
            case 2: lookAtSteps(x, seen); break;
            default: x.back(); lookAtLots(x, seen); break;
        }
        return seen;
    }

    private static void lookAtLots(HouseClearedUp x, List<Long> seen) {
        for (int what = 0; what < 8; what++) seen.add((long) x.about(what));
        for (int what = 0; what < 5; what++) seen.add((long) x.is(what));
        seen.add((long) x.fault(0));
        seen.add((long) x.fault(1));
        for (int lot = 0; lot < x.about(0); lot++) for (int what = 0; what < 8; what++) seen.add((long) x.of(lot, what));
        for (int b = 0; b < 5; b++) for (int what = 0; what < 3; what++) seen.add((long) x.ofBidder(b, what));
        for (int i = 0; i < x.book(-1, 0); i++) for (int what = 0; what < 4; what++) seen.add((long) x.book(i, what));
        x.by(-1);
        for (int b = 0; b < x.about(1); b++) for (int lot = 0; lot < x.about(0); lot++) seen.add((long) x.bids(b, lot));
    }

    private static void lookAtAnswers(HouseClearedUp x, List<Long> seen) {
        for (int a = 0; a < 6; a++) for (int b = 0; b < a; b++) seen.add((long) x.climb(a, b));
        for (int n = 1; n <= 6; n++) { seen.add(x.leave(n, false)); seen.add(x.leave(n, true)); }
        for (int level = 0; level < 6; level++) seen.add((long) x.takes(2, level));
        for (int b = 0; b < 5; b++) seen.add((long) x.pays(b));
        for (int b = -1; b < 5; b++) seen.add((long) x.ledger(b));
        for (int f = 0; f < 6; f++) seen.add((long) x.left(f));
        for (int k = 1; k < 3; k++) { seen.add((long) x.kept(k, false)); seen.add((long) x.kept(k, true)); }
        seen.add((long) x.winners(false));
        seen.add((long) x.winners(true));
        seen.add((long) x.dearest());
        seen.add((long) x.richest());
        seen.add((long) x.foretold(60, 0, 0));
        seen.add((long) x.foretold(60, 2, 0));
        for (int lot = 0; lot < 12; lot++) seen.add((long) x.foretold(20, 1, lot));
        seen.add((long) x.whose());
        for (int text = 0; text < 4; text++) {
            seen.add(bit(x.by(text)));
            for (int lot = 0; lot < 2; lot++) { seen.add((long) x.of(lot, 4)); seen.add((long) x.of(lot, 5)); seen.add((long) x.bids(0, lot)); }
        }
        // what is on the tape shows when it is read
        seen.add((long) x.text());
        seen.add((long) x.fault(0));
        seen.add((long) x.fault(1));
        for (int text = 0; text < 4; text++) seen.add((long) x.played(text));
        for (int what = 0; what < 3; what++) seen.add((long) x.is(what));
    }

    private static void lookAtSteps(HouseClearedUp x, List<Long> seen) {
        for (int can = 0; can >= 0;) {
            can = x.undo();
            seen.add((long) can);
            for (int what = 0; what < 3; what++) seen.add((long) x.is(what));
            seen.add((long) x.book(-1, 0));
            for (int f = 0; f < 6; f++) seen.add((long) x.left(f));
            seen.add((long) x.ofBidder(0, 0));
        }
    }

    // ---- texts

    static void feed(HouseClearedUp x, String text) {
        byte[] bytes = Arrays.copyOf(text.getBytes(StandardCharsets.ISO_8859_1), (text.length() + 19) / 20 * 20);
        IntBuffer ints = ByteBuffer.wrap(bytes).asIntBuffer();
        x.end(0);
        while (ints.hasRemaining()) x.feed(ints.get(), ints.get(), ints.get(), ints.get(), ints.get());
        x.end(text.length());
    }

    static int read(HouseClearedUp x, String text) {
        feed(x, text);
        return x.text();
    }

    static HouseClearedUp ruledBy(HouseClearedUp x, String text) {
        int number = x.about(2);
        due("text of " + text, read(x, text), number);
        x.by(number);
        return x;
    }

    static void sound(String text) {
        HouseClearedUp x = new HouseClearedUp();
        due("text of " + text, read(x, text), 0);
        due("fault(0) of " + text, x.fault(0), 0);
        due("fault(1) of " + text, x.fault(1), -1);
    }

    static void faulty(String text, int kind, int place) {
        HouseClearedUp x = new HouseClearedUp();
        due("text of " + text, read(x, text), -1);
        due("fault(0) of " + text, x.fault(0), kind);
        due("fault(1) of " + text, x.fault(1), place);
        due("texts behind " + text, x.about(2), 0);
    }

    // ---- houses

    static HouseClearedUp empty() { return new HouseClearedUp(); }

    /** One lot at a floor, with its worth, and a bidder for each want, of purse 500. */
    static HouseClearedUp one(int floor, int worth, int... wants) {
        HouseClearedUp x = new HouseClearedUp();
        x.lot(floor, worth, 1);
        for (int b = 0; b < wants.length; b++) {
            x.bidder(500);
            x.want(b, 0, wants[b]);
        }
        return x;
    }

    /**
     * Of all some: lot 0 is with bidder 2, 1 with the family, 2 burnt, 3 carried,
     * 4 and 5 above the sale; one text rules, one is beside it, and the tape has bytes.
     */
    static HouseClearedUp lived() {
        HouseClearedUp x = new HouseClearedUp();
        int[][] lots = {{0, 20, 3}, {0, 30, 4}, {0, 5, 2}, {0, 50, 9}, {2, 60, 1}, {5, 40, 5}};
        for (int[] l : lots) x.lot(l[0], l[1], l[2]);
        for (int purse : new int[] {300, 200, 250}) x.bidder(purse);
        for (int b = 0; b < 3; b++) for (int lot = 0; lot < 6; lot++) x.want(b, lot, 20 + (b * 17 + lot * 11) % 40);
        read(x, "warms 4;reserve worth/3;");
        read(x, "warms lot+1;sell 4;week 2;");
        x.by(0);
        x.sell(0);
        x.sell(1);
        x.image();
        x.buy(1, 50);
        x.burn(2);
        x.carry(3);
        x.week(1);
        x.bundle(0, 3, 40);
        x.bundle(1, 1, 25);
        x.bundle(2, 2, 30);
        x.said(0, 4);
        x.said(3, 4);
        x.stair(0, 3);
        x.gone(1, 2);
        x.odds(0, 4);
        x.odds(2, 3);
        x.odds(5, 3);
        read(x, "sell 0");
        feed(x, "carry 4;burn 5;x");
        return x;
    }

    /** As many of all as there can be. */
    static HouseClearedUp full() {
        HouseClearedUp x = new HouseClearedUp();
        for (int lot = 0; lot < 12; lot++) x.lot(lot % 6, 8 * lot, 1 + lot % 9);
        for (int b = 0; b < 5; b++) { x.bidder(100 * b); x.want(b, 2 * b, 50); x.want(b, 7, 40 + b); }
        for (int text = 0; text < 4; text++) read(x, text % 2 == 0 ? "warms 2;" : "bids want+1;");
        for (int i = 0; i < 8; i++) { x.bundle(i % 5, 1 << i, 7 * i); x.said(i, 2); }
        x.by(3);
        x.week(31);
        x.image();
        x.sell(7);
        for (int i = 0; i < 15; i++) x.feed(0x62757220, 0x31313b20, i, i, i);
        return x;
    }

    /** A lot and a bidder in a late week; by a text, since an object has but 512 calls. */
    static HouseClearedUp atWeek(int week) {
        HouseClearedUp x = new HouseClearedUp();
        read(x, "week 60;".repeat(24));
        for (int i = 0; i < week / 1440; i++) x.played(0);
        for (int i = 0; i < week % 1440 / 60; i++) x.week(60);
        if (week % 60 > 0) x.week(week % 60);
        due("is(0)", x.is(0), week);
        x.lot(5, 0, 1);
        x.bidder(500);
        x.want(0, 0, 10);
        return x;
    }
}
