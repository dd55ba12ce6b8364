import java.nio.ByteBuffer;
import java.nio.IntBuffer;
import java.nio.charset.StandardCharsets;
import java.util.Arrays;

/** Each promise by hand: ordinary inputs, the edges that the document names, wrong inputs. */
public final class PromisesTest {
    private static final int LOW = Integer.MIN_VALUE, HIGH = Integer.MAX_VALUE;
    private static int wrong = 0;
    private static int promise = 0;

    private static void due(String call, long got, long want) {
        if (got != want) {
            wrong++;
            System.out.println("promise " + promise + ": " + call + " answered " + got + ", due is " + want);
        }
    }

    private static void due(String call, boolean got, boolean want) { due(call, got ? 1 : 0, want ? 1 : 0); }

    public static void main(String[] args) {
        promise = 1; newObject();
        promise = 2; lot();
        promise = 3; bidder();
        promise = 4; want();
        promise = 5; feed();
        promise = 6; end();
        promise = 7; text(); grammar(); laws();
        promise = 8; fault(); faultsInOrder(); openFaults();
        promise = 9; by();
        promise = 10; sell();
        promise = 11; carry();
        promise = 12; burn();
        promise = 13; buy();
        promise = 14; week();
        promise = 15; played();
        promise = 16; years();
        promise = 17; undo(); undoOfTold();
        promise = 18; of();
        promise = 19; ofBidder();
        promise = 20; bids();
        promise = 21; is();
        promise = 22; book();
        promise = 23; foretold();
        promise = 24; order();
        promise = 25; bundle();
        promise = 26; winners();
        promise = 27; pays();
        promise = 28; kept();
        promise = 29; stair();
        promise = 30; gone();
        promise = 31; climb();
        promise = 32; cut();
        promise = 33; bridges();
        promise = 34; odds();
        promise = 35; leave();
        promise = 36; takes();
        promise = 37; ash();
        promise = 38; burnt();
        promise = 39; said();
        promise = 40; whose();
        promise = 41; dearest();
        promise = 42; left();
        promise = 43; ledger();
        promise = 44; richest();
        promise = 45; image();
        promise = 46; back();
        promise = 47; about();
        System.out.println(wrong == 0 ? "all promises hold" : wrong + " answers are not as due");
        if (wrong != 0) System.exit(1);
    }

    // ---- helpers

    private static void feed(HouseClearedUp x, String text) {
        byte[] bytes = Arrays.copyOf(text.getBytes(StandardCharsets.ISO_8859_1), (text.length() + 19) / 20 * 20);
        IntBuffer ints = ByteBuffer.wrap(bytes).asIntBuffer();
        x.end(0);
        while (ints.hasRemaining()) x.feed(ints.get(), ints.get(), ints.get(), ints.get(), ints.get());
        x.end(text.length());
    }

    private static int read(HouseClearedUp x, String text) {
        feed(x, text);
        return x.text();
    }

    private static void faulty(String text, int kind, int place) {
        HouseClearedUp x = new HouseClearedUp();
        due("text of " + text, read(x, text), -1);
        due("fault(0) of " + text, x.fault(0), kind);
        due("fault(1) of " + text, x.fault(1), place);
    }

    private static void sound(String text) {
        HouseClearedUp x = new HouseClearedUp();
        due("text of " + text, read(x, text), 0);
        due("fault(0) of " + text, x.fault(0), 0);
        due("fault(1) of " + text, x.fault(1), -1);
    }

    /** Two bidders (purses 100, 80); lot 0 at floor 0, worth 20, weight 3: wants 40 and 30. */
    private static HouseClearedUp small() {
        HouseClearedUp x = new HouseClearedUp();
        x.lot(0, 20, 3);
        x.bidder(100);
        x.bidder(80);
        x.want(0, 0, 40);
        x.want(1, 0, 30);
        return x;
    }

    private static HouseClearedUp ruled(String text) {
        HouseClearedUp x = small();
        if (read(x, text) != 0) due("text of " + text, x.fault(1), -1);
        x.by(0);
        return x;
    }

    private static String times(String s, int n) { return s.repeat(n); }

    // ---- promises

    private static void newObject() {
        HouseClearedUp x = new HouseClearedUp();
        for (int what = 0; what < 8; what++) due("about(" + what + ")", x.about(what), what == 3 ? -1 : 0);
        int[] is = {0, 0, 211, 0, 0};
        for (int what = 0; what < 5; what++) due("is(" + what + ")", x.is(what), is[what]);
        for (int f = 0; f < 5; f++) due("climb up", x.climb(f, f + 1), 1);
        due("climb(0, 2)", x.climb(0, 2), 2);
        x.lot(1, 2, 3);
        x.bidder(4);
        x.years(1, 40);
        x.stair(0, 5);
        x.odds(1, 1);
        due("back() to the empty house", x.back(), 0);
        due("lots then", x.about(0), 0);
        due("bidders then", x.about(1), 0);
        due("steps then", x.about(4), 0);
        due("X then", x.is(2), 211);
        due("stairs then", x.climb(0, 5), 5);
        due("odds then", x.leave(1, true), 1);
    }

    private static void lot() {
        HouseClearedUp x = new HouseClearedUp();
        int[][] others = {{-1, 0, 1}, {6, 0, 1}, {0, -1, 1}, {0, 100, 1}, {0, 0, 0}, {0, 0, 10}, {LOW, LOW, LOW}, {HIGH, HIGH, HIGH}};
        for (int[] o : others) due("lot" + Arrays.toString(o), x.lot(o[0], o[1], o[2]), -1);
        due("lot(5, 99, 9)", x.lot(5, 99, 9), 0);
        due("lot(0, 0, 1)", x.lot(0, 0, 1), 1);
        for (int i = 2; i < 12; i++) due("lot " + i, x.lot(1, i, 1), i);
        due("a 13th", x.lot(0, 0, 1), -1);
        due("of(0, 0)", x.of(0, 0), 5);
        due("of(0, 1)", x.of(0, 1), 99);
        due("of(0, 2)", x.of(0, 2), 9);
        due("of(11, 1)", x.of(11, 1), 11);
        due("about(0)", x.about(0), 12);
        due("about(4)", x.about(4), 0);
    }

    private static void bidder() {
        HouseClearedUp x = new HouseClearedUp();
        due("bidder(-1)", x.bidder(-1), -1);
        due("bidder(10000)", x.bidder(10000), -1);
        due("bidder(0)", x.bidder(0), 0);
        due("bidder(9999)", x.bidder(9999), 1);
        for (int i = 2; i < 5; i++) due("bidder " + i, x.bidder(i), i);
        due("a 6th", x.bidder(1), -1);
        due("ofBidder(1, 0)", x.ofBidder(1, 0), 9999);
        due("ofBidder(4, 0)", x.ofBidder(4, 0), 4);
    }

    private static void want() {
        HouseClearedUp x = new HouseClearedUp();
        due("want without any", x.want(0, 0, 0), false);
        x.lot(0, 0, 1);
        due("want without bidders", x.want(0, 0, 0), false);
        x.bidder(500);
        due("bids at first", x.bids(0, 0), 0);
        due("want(0, 0, 99)", x.want(0, 0, 99), true);
        due("bids", x.bids(0, 0), 99);
        due("want(0, 0, 100)", x.want(0, 0, 100), false);
        due("want(0, 0, -1)", x.want(0, 0, -1), false);
        due("want(-1, 0, 1)", x.want(-1, 0, 1), false);
        due("want(0, -1, 1)", x.want(0, -1, 1), false);
        due("want(1, 0, 1)", x.want(1, 0, 1), false);
        due("want(0, 1, 1)", x.want(0, 1, 1), false);
        due("bids yet", x.bids(0, 0), 99);
        due("want(0, 0, 0)", x.want(0, 0, 0), true);
        due("bids then", x.bids(0, 0), 0);
    }

    private static void feed() {
        HouseClearedUp x = new HouseClearedUp();
        for (int i = 1; i <= 15; i++) due("feed", x.feed(0x3b000000, -1, -1, -1, -1), i * 20);
        due("feed beyond 300", x.feed(0, 0, 0, 0, 0), -1);
        due("about(7)", x.about(7), 300);
        x.end(281);
        due("feed at 281", x.feed(0, 0, 0, 0, 0), -1);
        x.end(280);
        due("feed at 280", x.feed(0, 0, 0, 0, 0), 300);
        // the highest byte of a comes first: "bids;", and the fault stands at the fifth
        x.end(0);
        x.feed(0x62696473, 0x3b2d2d2d, 0, 0, 0);
        x.end(5);
        x.text();
        due("fault(1)", x.fault(1), 4);
        // each of the five comes: "    ....    ....x" is a fault at 16
        x.feed(0x20202020, 0x0a0a0a0a, 0x20202020, 0x20202020, 0x20202078);
        x.text();
        due("fault(1) of the last byte", x.fault(1), 19);
    }

    private static void end() {
        HouseClearedUp x = new HouseClearedUp();
        due("end(0)", x.end(0), 0);
        due("end(1)", x.end(1), -1);
        due("end(-1)", x.end(-1), -1);
        x.feed(1, 2, 3, 4, 5);
        due("end(21)", x.end(21), -1);
        due("end(LOW)", x.end(LOW), -1);
        due("about(7)", x.about(7), 20);
        due("end(20)", x.end(20), 20);
        due("end(7)", x.end(7), 7);
        due("about(7) then", x.about(7), 7);
        due("end(8)", x.end(8), -1);
        due("feed behind it", x.feed(0, 0, 0, 0, 0), 27);
    }

    private static void text() {
        HouseClearedUp x = new HouseClearedUp();
        due("an empty text", x.text(), 0);
        due("fault(0)", x.fault(0), 0);
        due("played(0)", x.played(0), -1);
        feed(x, "sell 0");
        due("a faulty one", x.text(), -1);
        due("its tape is empty", x.about(7), 0);
        for (int i = 1; i < 4; i++) {
            feed(x, "sell 0;");
            due("text " + i, x.text(), i);
            due("tape", x.about(7), 0);
        }
        feed(x, "?");
        due("a 5th", x.text(), -1);
        due("the tape stays", x.about(7), 1);
        due("it wasn't read", x.fault(0), 0);
        due("about(2)", x.about(2), 4);
        x.back();
        due("after back the tape", x.about(7), 1);
        due("is read", x.text(), -1);
        due("and has a fault", x.fault(0), 1);
    }

    private static void grammar() {
        sound("");
        sound(" \n ");
        sound("bids want;reserve worth/2;warms 3;");
        sound("lot 0 worth 0 weight 1;lot 5 worth 99 weight 9;bidder 0;bidder 9999;");
        sound("want 99 of 11 by 4;sell 11;carry 0;burn 11;buy 11 for 999;week 60;week 1;");
        sound("bids if want<1 or want<=2 and want>3 or not want>=4 and want=5 and not not want#6 then 1 else 2 end;");
        sound("bids even want+1 by 2;".replace("want+1", "(want+1)"));
        sound("bids--(-1)*-2/even 3 by-4;");
        sound("reserve week+floor+worth+weight+lot;warms week+floor+worth+weight+lot;");
        sound("bids week+floor+worth+weight+lot+want+purse+who+has;");
        sound("sell 00000000000000000000000000000003;");
        sound("bids\n1\n;");
        sound("bids 1;".repeat(1) + times("sell 0;", 23));
        sound("bids if worths if 1<2 then 3 else 4 end=5 then 6 else 7 end;");
        faulty("Bids 1;", 1, 0);
        faulty("bidss 1;", 1, 0);
        faulty("bids 1;;", 1, 7);
        faulty("bids ();", 1, 6);
        faulty("bids 1 < 2;", 1, 7);
        faulty("bids if (1<2) then 1 else 2 end;", 1, 10);
        faulty("bids if 1<2 then 1 end;", 1, 19);
        faulty("bids if 1<2 else 1 end;", 1, 12);
        faulty("bids if 1<2<3 then 1 else 2 end;", 1, 11);
        faulty("bids if 1< =2 then 1 else 2 end;", 1, 11);
        faulty("bids if 1=<2 then 1 else 2 end;", 1, 10);
        faulty("bids not 1<2;", 1, 5);
        faulty("bids even 1+1 by 2;", 1, 11);
        faulty("bids +1;", 1, 5);
        faulty("bids 1 2;", 1, 7);
        faulty("bids 1\t;", 1, 6);
        faulty("bids 1\r;", 1, 6);
        faulty("bids 1;\u00e9", 1, 7);
        faulty("bids \0;", 1, 5);
        faulty("bids reserve;", 1, 5);
        faulty("bids of;", 1, 5);
        faulty("bids 1 ", 1, 7);
        faulty("bids", 1, 4);
        faulty("lot 1;", 1, 5);
        faulty("lot 1 weight 1 worth 1;", 1, 6);
        faulty("lot one worth 1 weight 1;", 1, 4);
        faulty("want 1 by 1 of 1;", 1, 7);
        faulty("buy 1 of 1;", 1, 6);
        faulty("sell -1;", 1, 5);
        faulty("week;", 1, 4);
        faulty("worth 1;", 1, 0);
        faulty("7;", 1, 0);
        faulty(times(";", 300), 1, 0);
        faulty(times("\u00ff", 300), 1, 0);
        faulty("bids " + times("1+", 147) + "1", 1, 300);
        sound("bids" + times("1+", 147) + "1;");
        sound(times(" ", 300));
        faulty("bids " + times("1", 295), 2, 5);
    }

    private static void laws() {
        String[][] sums = {
            {"1+2*3-4", "3"}, {"7/2", "3"}, {"0-7/2+5", "2"}, {"(0-7)/2+5", "2"}, {"-7/2+5", "2"}, {"5/0+1", "1"},
            {"8/2/2", "2"}, {"8-2-2", "4"}, {"2*(3+4)", "14"}, {"even 17 by 5", "15"}, {"even -17 by 5+20", "5"},
            {"even 17 by -5", "15"}, {"even 17 by 0+3", "3"}, {"even 3 by 5", "0"}, {"--4", "4"},
            {"worths 0", "20"}, {"worths 1+1", "1"}, {"worths -1+2", "2"}, {"worths worths 0+1", "1"},
            {"9999*9999/9999", "100"}, {"9999*9999-9999*100-99", "1"}, {"-9999*9999+9999*100+101", "1"},
            {"9999*9999*9999-9999*9999", "0"}, {"9999*9999+9999*9999-9999*100-98", "2"},
            {"if 1<2 then 3 else 4 end", "3"}, {"if 2<2 then 3 else 4 end", "4"}, {"if 2<=2 then 3 else 4 end", "3"},
            {"if 2>2 then 3 else 4 end", "4"}, {"if 2>=2 then 3 else 4 end", "3"}, {"if 2=2 then 3 else 4 end", "3"},
            {"if 2#2 then 3 else 4 end", "4"}, {"if not 2#2 then 3 else 4 end", "3"},
            {"if 1=1 or 1=2 and 1=2 then 3 else 4 end", "3"}, {"if 1=2 and 1=1 or 1=2 then 3 else 4 end", "4"},
            {"if not 1=2 and 1=2 then 3 else 4 end", "4"}, {"if not not 1=1 then 3 else 4 end*2", "6"},
            {"if not 2=2 then 3 else 4 end", "4"}, {"if not 1<2 then 3 else 4 end", "4"},
            {"if not 2>1 then 3 else 4 end", "4"}, {"if not 1#2 then 3 else 4 end", "4"},
            {"if not 2<=2 then 3 else 4 end", "4"}, {"if not 2>=2 then 3 else 4 end", "4"},
            {"if 3<=2 then 3 else 4 end", "4"}, {"if 1>=2 then 3 else 4 end", "4"},
            {"1+1*" + times("if1=1or1=1and1=1+1*", 8) + "1" + times("then1else1end ", 8), "2"},
            {"if 1=2 then 1 else if 1=1 then 2 else 3 end end", "2"},
            {"week", "0"}, {"floor", "0"}, {"worth", "20"}, {"weight", "3"}, {"lot", "0"}, {"-5", "0"}};
        for (String[] s : sums) due("reserve " + s[0], ruled("reserve " + s[0] + ";").of(0, 4), Integer.parseInt(s[1]));
        due("reserve at most", ruled("reserve 1000;").of(0, 4), 999);
        due("reserve 999", ruled("reserve 999;").of(0, 4), 999);
        due("warms at most", ruled("warms 11;").of(0, 5), 10);
        due("warms at least", ruled("warms -1;").of(0, 5), 0);
        due("bids at least", ruled("bids 0-1;").bids(0, 0), 0);
        due("bids at most", ruled("bids 9999;").bids(1, 0), 80);
        due("bids want", ruled("bids want+1;").bids(1, 0), 31);
        due("bids purse", ruled("bids purse-1;").bids(1, 0), 79);
        due("bids who", ruled("bids who;").bids(1, 0), 1);
        HouseClearedUp x = ruled("bids has+3;");
        due("bids has", x.bids(0, 0), 3);
        x.lot(0, 0, 1);
        x.sell(1);
        due("bids has one", x.bids(0, 0), 4);
        due("the other has none", x.bids(1, 0), 3);
        x = ruled("reserve week*10+floor+worths 1;");
        x.carry(0);
        x.week(2);
        due("week, floor", x.of(0, 4), 21);
        x.lot(0, 50, 1);
        due("worths of what was told since", x.of(0, 4), 71);
    }

    private static void fault() {
        HouseClearedUp x = new HouseClearedUp();
        for (int what = -2; what < 3; what++) due("fault(" + what + ") ahead of any", x.fault(what), -1);
        read(x, "week 0;");
        due("fault(0)", x.fault(0), 2);
        due("fault(1)", x.fault(1), 5);
        due("fault(2)", x.fault(2), -1);
        due("fault(-1)", x.fault(-1), -1);
        read(x, "week 1;");
        due("fault(0) then", x.fault(0), 0);
        due("fault(1) then", x.fault(1), -1);
    }

    private static void faultsInOrder() {
        faulty("lot 6 worth 1 weight 1;", 2, 4);
        faulty("lot 5 worth 100 weight 1;", 2, 12);
        faulty("lot 5 worth 99 weight 0;", 2, 22);
        faulty("lot 5 worth 99 weight 10;", 2, 22);
        faulty("bidder 10000;", 2, 7);
        faulty("bidder 99999999999999999999;", 2, 7);
        faulty("want 100 of 0 by 0;", 2, 5);
        faulty("want 99 of 12 by 0;", 2, 11);
        faulty("want 99 of 11 by 5;", 2, 17);
        faulty("sell 12;", 2, 5);
        faulty("carry 12;", 2, 6);
        faulty("burn 12;", 2, 5);
        faulty("buy 12 for 0;", 2, 4);
        faulty("buy 11 for 1000;", 2, 11);
        faulty("week 0;", 2, 5);
        faulty("week 61;", 2, 5);
        faulty("bids 1+10000;", 2, 7);
        faulty("bids 1 10000;", 1, 7);
        faulty("10000", 1, 0);
        faulty("bids 1;bids 2;", 4, 7);
        faulty("bids 1;reserve 1;warms 1;reserve 2;", 4, 25);
        faulty("warms 1;warms", 4, 8);
        faulty("reserve want;", 5, 8);
        faulty("reserve 1+purse;", 5, 10);
        faulty("warms who;", 5, 6);
        faulty("warms has;", 5, 6);
        faulty("warms 1 has;", 1, 8);
        faulty("bids 10000;warms has;", 2, 5);
        faulty(times("sell 0;", 24) + "sell 0;", 6, 168);
        faulty(times("sell 0;", 24) + "sell", 6, 168);
        faulty(times("sell 0;", 24) + " x", 1, 169);
        faulty("bids 1;" + times("sell 0;", 23) + "bids 1;", 4, 168);
        faulty("bids 1;" + times("sell 0;", 23) + "warms 1;", 6, 168);
        faulty("  week 1;  lot", 1, 14);
        faulty("week 1;  lot  ", 1, 14);
    }

    private static void openFaults() {
        sound("bids " + times("(", 8) + "1" + times(")", 8) + ";");
        faulty("bids " + times("(", 9) + "1" + times(")", 9) + ";", 3, 13);
        sound("bids " + times("-", 8) + "1;");
        faulty("bids " + times("-", 9) + "1;", 3, 13);
        faulty("bids " + times("-", 20), 3, 13);
        sound("bids " + times("worths ", 8) + "1;");
        faulty("bids " + times("worths ", 9) + "1;", 3, 61);
        sound("bids " + times("even 1 by ", 8) + "1;");
        faulty("bids " + times("even 1 by ", 9) + "1;", 3, 85);
        sound("bids " + times("even ", 8) + "1" + times(" by 1", 8) + ";");
        faulty("bids " + times("even ", 9) + "1" + times(" by 1", 9) + ";", 3, 45);
        sound("bids if " + times("not ", 7) + "1<2 then 1 else 2 end;");
        faulty("bids if " + times("not ", 8) + "1<2 then 1 else 2 end;", 3, 36);
        sound("bids if " + times("not ", 7) + "1<2 and " + times("not ", 7) + "1<2 then 1 else 2 end;");
        faulty("bids if " + times("not ", 7) + "1<(2 then 1 else 2 end;", 3, 38);
        sound("bids " + times("if 1=", 8) + "1" + times(" then 1 else 1 end", 8) + ";");
        faulty("bids " + times("if 1=", 9) + "1;", 3, 45);
        faulty("bids " + times("(", 8) + "+1;", 1, 13);
        faulty("bids " + times("(", 7) + "even 1 by(1;", 3, 21);
        sound("bids " + times("(", 7) + "even 1 by 1+(1)" + times(")", 7) + ";");
        sound("bids " + times("(", 7) + "-1-(1)" + times(")", 7) + ";");
        faulty("bids " + times("(", 7) + "-(1);", 3, 13);
        sound("bids " + times("(", 8) + "1-1" + times(")", 8) + ";");
        sound("bids -1-(" + times("-", 7) + "1)-" + times("-", 8) + "1;");
    }

    private static void by() {
        HouseClearedUp x = small();
        due("by(0) without texts", x.by(0), false);
        due("by(-1)", x.by(-1), true);
        read(x, "reserve 77;");
        read(x, "warms 7;");
        due("not yet", x.of(0, 4), 10);
        due("by(0)", x.by(0), true);
        due("reserve by it", x.of(0, 4), 77);
        due("warms without", x.of(0, 5), 3);
        due("bids without", x.bids(0, 0), 40);
        due("by(2)", x.by(2), false);
        due("by(-2)", x.by(-2), false);
        due("about(3)", x.about(3), 0);
        due("by(1)", x.by(1), true);
        due("reserve without", x.of(0, 4), 10);
        due("warms by it", x.of(0, 5), 7);
        due("by(-1)", x.by(-1), true);
        due("about(3) then", x.about(3), -1);
        due("warms then", x.of(0, 5), 3);
    }

    private static void sell() {
        HouseClearedUp x = small();
        due("sell(1)", x.sell(1), -2);
        due("sell(-1)", x.sell(-1), -2);
        due("sell(HIGH)", x.sell(HIGH), -2);
        due("no step", x.about(4), 0);
        due("sell(0)", x.sell(0), 30);
        due("it has it", x.of(0, 3), 3);
        due("purse", x.ofBidder(0, 0), 70);
        due("takings", x.is(1), 30);
        due("X stays", x.is(2), 211);
        due("sell(0) again", x.sell(0), -2);
        due("one step", x.about(4), 1);
        x = new HouseClearedUp();
        x.lot(3, 9, 1);
        due("without bidders", x.sell(0), -2);
        x.bidder(50);
        due("passed in", x.sell(0), -1);
        due("a step, too", x.about(4), 1);
        x.want(0, 0, 4);
        due("0 others: reserve", x.sell(0), 4);
        x.undo();
        x.bidder(3);
        x.want(1, 0, 99);
        due("purse at most", x.sell(0), 4);
        x.undo();
        x.bidder(20);
        x.want(2, 0, 4);
        due("of like ones the lowest", x.sell(0), 4);
        due("who has it", x.of(0, 3), 3);
        x = new HouseClearedUp();
        x.lot(0, 1, 1);
        x.bidder(0);
        due("for nothing", x.sell(0), 0);
        due("a sale", x.book(-1, 0), 1);
        x = new HouseClearedUp();
        for (int i = 0; i < 12; i++) x.lot(0, 0, 1);
        x.bidder(9999);
        x.bidder(9999);
        read(x, "bids 9999;");
        x.by(0);
        due("dear", x.sell(0), 9999);
        due("the other bids 0 now", x.sell(1), 0);
        due("takings", x.is(1), 9999);
        due("purses", x.ofBidder(0, 0) * 10000 + x.ofBidder(1, 0), 9999);
    }

    private static void carry() {
        HouseClearedUp x = new HouseClearedUp();
        due("carry without", x.carry(0), false);
        x.lot(0, 1, 1);
        x.lot(1, 1, 1);
        x.lot(5, 1, 1);
        due("above the sale", x.carry(1), false);
        due("carry(0)", x.carry(0), true);
        due("now above", x.carry(0), false);
        due("floor", x.of(0, 0), 1);
        due("carry(-1)", x.carry(-1), false);
        due("carry(3)", x.carry(3), false);
        x.week(60);
        for (int i = 2; i <= 5; i++) due("carry on", x.carry(0), true);
        due("at 5", x.of(0, 0), 5);
        due("no more", x.carry(0), false);
        due("nor this one", x.carry(2), false);
        x.burn(1);
        due("burnt", x.carry(1), false);
    }

    private static void burn() {
        HouseClearedUp x = small();
        due("burn(1)", x.burn(1), false);
        due("burn(-1)", x.burn(-1), false);
        x.sell(0);
        due("with a bidder", x.burn(0), false);
        x.lot(0, 0, 1);
        x.lot(5, 0, 1);
        due("burn(1)", x.burn(1), true);
        due("where", x.of(1, 3), 2);
        due("twice", x.burn(1), false);
        due("above the sale", x.burn(2), true);
        x.want(0, 0, 1);
        x.buy(0, 1);
        due("with the family", x.burn(0), true);
        due("steps", x.about(4), 5);
    }

    private static void buy() {
        HouseClearedUp x = small();
        due("in the house", x.buy(0, 50), false);
        x.lot(0, 99, 1);
        x.want(0, 1, 70);
        x.want(1, 1, 70);
        x.sell(0);
        x.want(0, 0, 25);
        due("below its want", x.buy(0, 24), false);
        due("more than takings", x.buy(0, 31), false);
        due("buy(0, -1)", x.buy(0, -1), false);
        due("buy(0, 1000)", x.buy(0, 1000), false);
        due("buy(2, 25)", x.buy(2, 25), false);
        due("buy(-1, 25)", x.buy(-1, 25), false);
        due("its want", x.buy(0, 25), true);
        due("takings", x.is(1), 5);
        due("purse", x.ofBidder(0, 0), 95);
        due("where", x.of(0, 3), 1);
        due("no sale", x.book(-1, 0), 1);
        due("twice", x.buy(0, 25), false);
        x.undo();
        due("all takings", x.buy(0, 30), true);
        due("takings then", x.is(1), 0);
        HouseClearedUp y = new HouseClearedUp();
        y.lot(0, 0, 1);
        y.lot(0, 99, 1);
        y.bidder(9999);
        y.bidder(9999);
        y.want(1, 1, 90);
        y.sell(0);
        y.want(0, 0, 0);
        y.sell(1);
        due("for 10", y.buy(0, 10), true);
        due("purse at most", y.ofBidder(0, 0), 9999);
        y.undo();
        due("for 0", y.buy(0, 0), true);
        HouseClearedUp z = new HouseClearedUp();
        z.lot(0, 0, 1);
        z.lot(0, 0, 1);
        z.bidder(9999);
        z.bidder(9999);
        read(z, "bids if lot=who then 2000 else 1500 end;");
        z.by(0);
        z.sell(0);
        z.sell(1);
        due("takings 3000", z.is(1), 3000);
        due("999", z.buy(0, 999), true);
        due("1000", z.buy(1, 1000), false);
    }

    private static void week() {
        HouseClearedUp x = small();
        for (int n : new int[] {0, -1, 61, LOW, HIGH}) due("week(" + n + ")", x.week(n), -1);
        x.lot(0, 90, 1);
        x.lot(1, 0, 1);
        // draws: 211 -> 1 (bidder 1 warms lot 0 to 35), 3297 -> 7 (not below 3)
        due("week(1)", x.week(1), 1);
        due("want was more by 5", x.is(1), 35);
        due("X by two draws", x.is(2), 12226);
        due("passed in stays", x.of(1, 3), 0);
        due("is(0)", x.is(0), 1);
        // 12226 -> 6: no
        due("week(2)", x.week(2), 1);
        due("X by one draw", x.is(2), (12226 * 449 + 337) % 30593);
        due("its winner", x.of(2, 3), 3);
        due("steps", x.about(4), 3);
        x = new HouseClearedUp();
        x.lot(0, 0, 1);
        due("without bidders", x.week(3), 0);
        due("no draw", x.is(2), 211);
        x = ruled("reserve 999;");
        x.want(1, 0, 97);
        due("passed in", x.week(1), 0);
        due("warmed, and purse at most", x.bids(1, 0), 80);
        x = new HouseClearedUp();
        x.lot(0, 0, 1);
        x.bidder(500);
        read(x, "reserve 999;warms 10;");
        x.by(0);
        x.want(0, 0, 93);
        x.week(1);
        due("more by 5", x.bids(0, 0), 98);
        x.undo();
        x.want(0, 0, 95);
        x.week(1);
        due("99 at most", x.bids(0, 0), 99);
        x = ruled("reserve 999;warms 1;");
        x.week(1);
        due("a draw of 1 isn't below 1", x.bids(1, 0), 30);
        x = ruled("reserve 999;warms 2;");
        x.week(1);
        due("a draw of 1 is below 2", x.bids(1, 0), 35);
        due("the other's stays", x.bids(0, 0), 40);
        x = new HouseClearedUp();
        for (int i = 0; i < 166; i++) x.week(60);
        due("is(0)", x.is(0), 9960);
        due("beyond 9999", x.week(40), -1);
        due("is(0) yet", x.is(0), 9960);
        due("to 9999", x.week(39), 0);
        due("is(0) then", x.is(0), 9999);
        due("none any more", x.week(1), -1);
        due("floor", x.is(3), 5);
        due("nor by years", x.years(0, 40), 9999);
        x.lot(5, 0, 1);
        due("foretold there", x.foretold(5, 1, 0), 0);
    }

    private static void played() {
        HouseClearedUp x = new HouseClearedUp();
        due("without texts", x.played(0), -2);
        due("played(-1)", x.played(-1), -2);
        read(x, "lot 0 worth 20 weight 3;bids want;bidder 100;want 40 of 0 by 0;sell 0;buy 0 for 10;burn 0;");
        due("stops at buy", x.played(0), 5);
        due("sold for reserve", x.is(1), 10);
        due("what was done stays", x.of(0, 3), 3);
        due("one step", x.about(4), 1);
        due("the law does not rule", x.about(3), -1);
        read(x, "burn 0;");
        due("the first", x.played(1), 0);
        read(x, "lot 1 worth 99 weight 1;warms 1;carry 1;week 1;carry 1;carry 1;");
        due("carry above the sale", x.played(2), 2);
        due("and again", x.played(2), 2);
        due("lots", x.about(0), 3);
        x.week(1);
        due("all", x.played(2), 5);
        x = new HouseClearedUp();
        read(x, "lot 0 worth 9 weight 1;bidder 5;sell 0;sell 0;");
        due("passed in isn't one that can't be", x.played(0), -1);
        due("steps", x.about(4), 2);
        due("as by hand, again", x.played(0), -1);
        for (int i = 2; i < 5; i++) x.played(0);
        due("a 6th bidder", x.played(0), 1);
        due("but the lot is told", x.about(0), 6);
        for (int i = 6; i < 12; i++) x.lot(0, 0, 1);
        due("a 13th lot", x.played(0), 0);
        read(x, "want 1 of 11 by 4;want 1 of 0 by 0;");
        due("wants", x.played(1), -1);
        read(x, "want 2 of 3 by 1;buy 4 for 20;");
        due("buy of one in the house", x.played(2), 1);
        due("the second bidder", x.bids(1, 3), 2);
        due("nobody else", x.bids(2, 3) + x.bids(3, 1) + x.bids(1, 2), 0);
        x = small();
        x.lot(3, 0, 1);
        x.lot(3, 90, 1);
        read(x, "want 0 of 1 by 0;sell 0;sell 1;buy 1 for 21;buy 0 for 1;");
        due("lot, price", x.played(0), 4);
        due("takings", x.is(1), 9);
        due("lot 1 is back", x.of(1, 3), 1);
        read(x, "lot 4 worth 5 weight 6;bidder 7;");
        x.played(1);
        due("floor", x.of(3, 0), 4);
        due("worth", x.of(3, 1), 5);
        due("weight", x.of(3, 2), 6);
        due("purse", x.ofBidder(2, 0), 7);
        x = new HouseClearedUp();
        read(x, "want 1 of 0 by 0;");
        due("want without lots", x.played(0), 0);
        read(x, times("week 60;", 24));
        for (int i = 0; i < 6; i++) due("weeks", x.played(1), -1);
        due("is(0)", x.is(0), 8640);
        due("those that can pass do", x.played(1), 22);
        due("9999", x.is(0), 9999);
        due("none", x.played(1), 0);
        due("latest 30", x.about(4), 30);
    }

    private static void years() {
        HouseClearedUp x = new HouseClearedUp();
        int[][] others = {{-1, 1}, {10000, 1}, {0, 0}, {0, 41}, {LOW, 1}, {0, HIGH}};
        for (int[] o : others) due("years" + Arrays.toString(o), x.years(o[0], o[1]), -1);
        due("no step", x.about(4), 0);
        due("years(9999, 1)", x.years(9999, 1), 0);
        due("X", x.is(2), (20209 * 449 + 337) % 30593);
        due("one step", x.about(4), 1);
        due("years(0, 40)", x.years(0, 40), weeksOf(211, 40));
        due("two steps", x.about(4), 2);
        x.undo();
        due("taken back whole", x.is(0), 0);
        due("X as ahead", x.is(2), (20209 * 449 + 337) % 30593);
        // x of one draw: seed 0 gives 211, which is 1 mod 6: carried
        x = small();
        x.years(0, 1);
        due("carried", x.of(0, 0), 1);
        // 2 * seed + 211 is odd: 1, 3, 5 mod 6 for a first draw
        x = small();
        due("seed 2: a week", x.years(2, 1), 1); // 215 mod 6 is 5
        due("and a sale in it", x.book(-1, 0), 1);
        due("X by two", x.is(2), next(next(215)));
        x = small();
        x.sell(0);
        x.want(0, 0, 23);
        x.years(1, 1); // 213 mod 6 is 3, 20 + 213 mod 30 is 23
        due("bought back", x.of(0, 3), 1);
        due("takings", x.is(1), 7);
        x.undo();
        x.want(0, 0, 24);
        x.years(1, 1);
        due("not for less than its want", x.of(0, 3), 3);
        due("a step all the same", x.about(4), 2);
        yearOf(0, 0);
        yearOf(2, 2);
        yearOf(2, 0);
    }

    /** Finds a seed whose second draw is a deed (mod 6) and no other is done, and looks at what came of it. */
    private static void yearOf(int deed, int mod8) {
        for (int seed = 0; seed < 10000; seed++) {
            int first = seed * 2 + 211, second = next(first);
            if (first % 6 != 3 || second % 6 != deed || second % 8 != mod8) continue;
            HouseClearedUp x = small();
            x.years(seed, 2);
            if (deed == 0) due("SOLD by years", x.of(0, 3), 3);
            else due("BURNT by years, mod 8 " + mod8, x.of(0, 3), mod8 == 2 ? 2 : 0);
            return;
        }
        due("a seed for " + deed, 0, 1);
    }

    private static int next(int x) { return (x * 449 + 337) % 30593; }

    private static int weeksOf(int x, int n) {
        int weeks = 0;
        int at = x;
        for (int i = 0; i < n; i++) {
            if (at % 6 >= 4) weeks++;
            at = next(at);
        }
        return weeks;
    }

    private static void undo() {
        HouseClearedUp x = small();
        due("none", x.undo(), -1);
        x.carry(0);
        x.week(2);
        due("sold in the second", x.of(0, 3), 3);
        due("undo", x.undo(), 2);
        due("week", x.is(0), 1);
        due("where", x.of(0, 3), 0);
        due("takings", x.is(1), 0);
        due("X", x.is(2), 211);
        due("purse", x.ofBidder(0, 0), 100);
        due("want", x.bids(1, 0), 30);
        due("book", x.book(-1, 0), 0);
        due("undo", x.undo(), 1);
        due("undo", x.undo(), 0);
        due("floor", x.of(0, 0), 0);
        due("undo", x.undo(), -1);
        x.week(60);
        due("latest 30", x.about(4), 30);
        for (int i = 29; i >= 0; i--) due("undo", x.undo(), i);
        due("week then", x.is(0), 30);
        due("no more", x.undo(), -1);
        x = new HouseClearedUp();
        x.lot(0, 0, 1);
        x.bidder(10);
        for (int i = 0; i < 31; i++) {
            x.sell(0);
            x.buy(0, 0);
            due("a lot with the family stays", x.sell(0), -2);
            x.undo();
            x.undo();
        }
        due("back at the start", x.about(4), 0);
    }

    private static void undoOfTold() {
        HouseClearedUp x = small();
        x.week(1);
        due("sold", x.of(0, 3), 3);
        x.lot(4, 44, 4);
        x.bidder(77);
        x.want(2, 1, 17);
        x.want(1, 0, 12);
        x.stair(0, 5);
        x.bundle(0, 1, 1);
        x.said(0, 1);
        read(x, "warms 1;");
        x.by(0);
        x.week(1);
        x.sell(1);
        for (int i = 2; i >= 0; i--) due("undo", x.undo(), i);
        due("lots", x.about(0), 2);
        due("floor of the new one", x.of(1, 0), 4);
        due("purse of the new one", x.ofBidder(2, 0), 77);
        due("its want", x.bids(2, 1), 17);
        due("want told since", x.bids(1, 0), 12);
        due("want not told since", x.bids(0, 0), 40);
        due("stairs stay", x.climb(0, 5), 1);
        due("bundles stay", x.about(5), 1);
        due("said stays", x.about(6), 1);
        due("text stays", x.about(3), 0);
        due("in the house again", x.of(0, 3), 0);
    }

    private static void of() {
        HouseClearedUp x = new HouseClearedUp();
        due("of without lots", x.of(0, 0), -2);
        x = small();
        int[] all = {0, 20, 3, 0, 10, 3, 0, 30};
        for (int what = 0; what < 8; what++) due("of(0, " + what + ")", x.of(0, what), all[what]);
        for (int what : new int[] {-1, 8, LOW, HIGH}) due("of(0, " + what + ")", x.of(0, what), -2);
        due("of(1, 0)", x.of(1, 0), -2);
        due("of(-1, 0)", x.of(-1, 0), -2);
        x.burn(0);
        int[] gone = {0, 20, 3, 2, 10, 3, -1, -1};
        for (int what = 0; what < 8; what++) due("burnt: of(0, " + what + ")", x.of(0, what), gone[what]);
        x.lot(0, 99, 1);
        due("reserve is cut", x.of(1, 4), 49);
        due("nobody", x.of(1, 6), -1);
        due("no price", x.of(1, 7), -1);
        x.want(1, 1, 49);
        due("reserve or more", x.of(1, 6), 1);
        due("price", x.of(1, 7), 49);
        due("it changes nothing", x.of(1, 3), 0);
        due("no step of it", x.about(4), 1);
        x = new HouseClearedUp();
        x.lot(0, 0, 1);
        due("without bidders", x.of(0, 6), -1);
        due("without bidders", x.of(0, 7), -1);
    }

    private static void ofBidder() {
        HouseClearedUp x = small();
        x.lot(0, 8, 1);
        x.want(0, 1, 9);
        due("none yet", x.ofBidder(0, 1), 0);
        due("none yet", x.ofBidder(0, 2), 0);
        x.sell(0);
        x.sell(1);
        due("purse", x.ofBidder(0, 0), 100 - 30 - 4);
        due("lots", x.ofBidder(0, 1), 3);
        due("wants", x.ofBidder(0, 2), 49);
        due("the other", x.ofBidder(1, 1), 0);
        due("ofBidder(0, 3)", x.ofBidder(0, 3), -2);
        due("ofBidder(0, -1)", x.ofBidder(0, -1), -2);
        due("ofBidder(2, 0)", x.ofBidder(2, 0), -2);
        due("ofBidder(-1, 0)", x.ofBidder(-1, 0), -2);
    }

    private static void bids() {
        HouseClearedUp x = small();
        due("bids", x.bids(0, 0), 40);
        due("bids(2, 0)", x.bids(2, 0), -1);
        due("bids(0, 1)", x.bids(0, 1), -1);
        due("bids(-1, 0)", x.bids(-1, 0), -1);
        due("bids(0, -1)", x.bids(0, -1), -1);
        x.bidder(7);
        x.want(2, 0, 8);
        due("purse at most", x.bids(2, 0), 7);
        x.sell(0);
        due("of a lot that is sold", x.bids(1, 0), 30);
    }

    private static void is() {
        HouseClearedUp x = small();
        x.lot(0, 99, 1);
        x.lot(1, 99, 1);
        due("is(4)", x.is(4), 3);
        x.burn(0);
        due("is(4) without what is burnt", x.is(4), 2);
        x.week(1);
        due("is(0)", x.is(0), 1);
        due("is(3)", x.is(3), 1);
        due("is(4)", x.is(4), 4);
        x.week(9);
        due("is(0)", x.is(0), 10);
        due("is(3), 5 at most", x.is(3), 5);
        due("is(4)", x.is(4), 0);
        for (int what : new int[] {-1, 5, LOW, HIGH}) due("is(" + what + ")", x.is(what), -2);
    }

    private static void book() {
        HouseClearedUp x = small();
        due("none", x.book(-1, 0), 0);
        due("book(0, 0)", x.book(0, 0), -2);
        x.lot(1, 0, 1);
        x.want(1, 1, 6);
        x.week(2);
        due("two", x.book(-1, 7), 2);
        int[][] rows = {{0, 0, 0, 35}, {1, 1, 1, 0}};
        for (int i = 0; i < 2; i++) for (int w = 0; w < 4; w++) due("book(" + i + ", " + w + ")", x.book(i, w), rows[i][w]);
        due("book(2, 0)", x.book(2, 0), -2);
        due("book(-2, 0)", x.book(-2, 0), -2);
        due("book(0, 4)", x.book(0, 4), -2);
        due("book(0, -1)", x.book(0, -1), -2);
        due("undo", x.undo(), 1);
        due("as ahead", x.book(-1, 0), 1);
        // a lot comes into the house but once, so twelve sales are the most
        x = new HouseClearedUp();
        for (int i = 0; i < 12; i++) x.lot(0, 0, 1);
        x.bidder(9);
        due("all are sold", x.week(1), 12);
        due("book(-1, 0)", x.book(-1, 0), 12);
        due("book(11, 1)", x.book(11, 1), 11);
        due("book(12, 1)", x.book(12, 1), -2);
    }

    private static void foretold() {
        HouseClearedUp x = small();
        x.lot(2, 0, 1);
        due("foretold(1, 0, 0)", x.foretold(1, 0, 0), 35);
        due("foretold(1, 1, 0)", x.foretold(1, 1, 0), 3);
        due("foretold(1, 2, 0)", x.foretold(1, 2, 0), 1);
        due("foretold(2, 2, 99)", x.foretold(2, 2, 99), 1);
        due("foretold(3, 2, 0)", x.foretold(3, 2, 0), 2);
        due("foretold(60, 1, 1)", x.foretold(60, 1, 1), 3);
        for (int n : new int[] {0, 61, -1, LOW, HIGH}) due("foretold(" + n + ")", x.foretold(n, 0, 0), -2);
        due("what 3", x.foretold(1, 3, 0), -2);
        due("what -1", x.foretold(1, -1, 0), -2);
        due("lot 2", x.foretold(1, 1, 2), -2);
        due("lot -1", x.foretold(1, 1, -1), -2);
        due("nothing changed", x.is(0) + x.is(1) + x.about(4) + x.of(0, 3), 0);
        due("X", x.is(2), 211);
        due("as it comes then", x.week(60), 2);
        due("and no more", x.foretold(60, 2, 0), 0);
        due("takings stay", x.foretold(60, 0, 0), x.is(1));
    }

    private static void order() {
        HouseClearedUp x = small();
        due("order(0, -1)", x.order(0, -1), -2);
        due("order(2, -1)", x.order(2, -1), -2);
        due("order(-1, -1)", x.order(-1, -1), -2);
        due("one", x.order(1, -1), 30);
        due("the 0th", x.order(1, 0), 0);
        due("the 1st", x.order(1, 1), -2);
        due("the -2nd", x.order(1, -2), -2);
        for (int i = 1; i < 7; i++) x.lot(i % 6, 0, 1);
        due("six lots", x.order(63, -1), -2);
        due("five lots", x.order(62, -1), 0);
        for (int i = 0; i < 5; i++) due("like ones: the lowest first", x.order(62, i), 1 + i);
        x.burn(3);
        due("not in the house", x.order(8, -1), -2);
        // one purse of 50: lot 0 takes it all first, but lot 1 first brings more
        x = new HouseClearedUp();
        x.lot(0, 0, 1);
        x.lot(0, 0, 1);
        x.bidder(50);
        x.bidder(40);
        x.want(0, 0, 50);
        x.want(1, 0, 35);
        x.want(0, 1, 45);
        x.want(1, 1, 20);
        // 0 then 1: 35, bidder 0 has 15 left, bidder 1 wins at 15: 50; 1 then 0: 20, bidder 0 has 30, bidder 1 wins at 30: 50
        due("both ways like", x.order(3, -1), 50);
        due("the lowest first", x.order(3, 0), 0);
        x.want(1, 1, 22);
        // 0 then 1: 35 + 15; 1 then 0: 22, then bidder 1 wins by 35 at 28
        due("like again", x.order(3, -1), 50);
        x.want(1, 0, 5);
        // 0 then 1: 5, then 22: 27; 1 then 0: 22, then 5: 27
        due("like once more", x.order(3, -1), 27);
        HouseClearedUp y = ruled("bids want-has*15;");
        y.lot(0, 0, 1);
        y.want(0, 1, 50);
        y.want(1, 1, 20);
        // 0 then 1: 30, then bidder 0 bids 35 against 20: 20 more; 1 then 0: 20, then 25 against 30: 25
        due("0 then 1 is more", y.order(3, -1), 50);
        due("first", y.order(3, 0), 0);
        y.want(1, 1, 40);
        // 0 then 1: 30, then 35 against 40: 35; 1 then 0: 40, then 25 against 30: 25
        due("65 both ways", y.order(3, -1), 65);
        y.want(1, 1, 45);
        // 0 then 1: 30 + 35; 1 then 0: 45 + 25
        due("1 then 0 is more", y.order(3, -1), 70);
        due("first 1", y.order(3, 0), 1);
        due("then 0", y.order(3, 1), 0);
        due("nothing changed", y.about(4) + y.is(1) + y.of(0, 3) + y.of(1, 3), 0);
        // the second bidder wins one, and then bids less for the other
        HouseClearedUp w = ruled("bids want-has*20;");
        w.lot(0, 0, 1);
        w.want(0, 0, 30);
        w.want(1, 0, 40);
        w.want(0, 1, 10);
        w.want(1, 1, 50);
        // 0 then 1: 30, then 30 against 10: 10; 1 then 0: 10, then 20 against 30: 20
        due("0 first", w.order(3, -1), 40);
        due("0 first", w.order(3, 0), 0);
        w.want(0, 1, 45);
        // 0 then 1: 30, then 30 against 45: 30; 1 then 0: 45, then 20 against 30: 20
        due("1 first", w.order(3, -1), 65);
        due("1 first", w.order(3, 0), 1);
        HouseClearedUp z = new HouseClearedUp();
        z.lot(0, 50, 1);
        due("without bidders nothing is had", z.order(1, -1), 0);
    }

    /** Four bidders, four lots. */
    private static HouseClearedUp forBundles() {
        HouseClearedUp x = new HouseClearedUp();
        for (int i = 0; i < 4; i++) {
            x.lot(i, i, 1);
            x.bidder(i);
        }
        return x;
    }

    private static void bundle() {
        HouseClearedUp x = forBundles();
        int[][] others = {{4, 1, 1}, {-2, 1, 1}, {0, 0, 1}, {0, 16, 1}, {0, -1, 1}, {0, 1, -1}, {0, 1, 10000}};
        for (int[] o : others) due("bundle" + Arrays.toString(o), x.bundle(o[0], o[1], o[2]), -2);
        for (int i = 1; i <= 8; i++) due("bundle " + i, x.bundle(0, 15, 9999), i);
        due("a 9th", x.bundle(0, 1, 0), -2);
        due("about(5)", x.about(5), 8);
        due("none any more", x.bundle(-1, 99, -99), 0);
        due("about(5)", x.about(5), 0);
        x.burn(0);
        due("of a lot that is burnt", x.bundle(0, 1, 0), 1);
    }

    private static void winners() {
        HouseClearedUp x = forBundles();
        due("without any", x.winners(false), 0);
        due("without any", x.winners(true), 0);
        x.bundle(0, 3, 10);
        x.bundle(1, 1, 6);
        x.bundle(2, 2, 6);
        due("two are more than one", x.winners(false), 6);
        due("together", x.winners(true), 12);
        x.bundle(3, 12, 0);
        due("a price of 0 adds nothing", x.winners(false), 6);
        x.bundle(1, 8, 50);
        due("no bidder twice", x.winners(false), 17);
        due("together", x.winners(true), 60);
        x.bundle(-1, 0, 0);
        x.bundle(0, 1, 5);
        x.bundle(1, 1, 5);
        due("of like ones the lowest", x.winners(false), 1);
        x.bundle(-1, 0, 0);
        x.bundle(0, 3, 10);
        x.bundle(1, 1, 5);
        x.bundle(2, 2, 5);
        due("the lowest set", x.winners(false), 1);
    }

    private static void pays() {
        HouseClearedUp x = forBundles();
        due("pays without bundles", x.pays(0), 0);
        due("pays(4)", x.pays(4), -1);
        due("pays(-1)", x.pays(-1), -1);
        x.bundle(0, 3, 10);
        x.bundle(1, 1, 6);
        x.bundle(2, 2, 6);
        due("a loser", x.pays(0), 0);
        due("10 less 6", x.pays(1), 4);
        due("10 less 6", x.pays(2), 4);
        due("no part in it", x.pays(3), 0);
        x.bundle(1, 2, 3);
        due("without all its own", x.pays(1), 4);
    }

    private static void kept() {
        HouseClearedUp x = new HouseClearedUp();
        due("none", x.kept(1, false), 0);
        due("none", x.kept(1, true), 0);
        due("kept(0)", x.kept(0, true), -1);
        due("kept(13)", x.kept(13, false), -1);
        x.lot(0, 10, 1);
        x.lot(0, 20, 1);
        x.lot(1, 5, 1);
        x.lot(1, 6, 1);
        x.lot(1, 0, 1);
        due("one a week", x.kept(1, false), 2 + 8);
        due("worth", x.kept(1, true), 26);
        due("two a week", x.kept(2, false), 15);
        due("without worth not at all", x.kept(12, false), 15);
        x.week(1);
        due("the sale is above", x.kept(1, false), 8);
        due("worth", x.kept(1, true), 6);
        x = new HouseClearedUp();
        x.lot(2, 10, 1);
        x.lot(2, 10, 1);
        x.lot(2, 10, 1);
        x.lot(2, 10, 1);
        due("three weeks: the lowest set", x.kept(1, false), 7);
        x.burn(0);
        due("in the house alone", x.kept(1, false), 14);
        x.week(9);
        due("too late", x.kept(12, true), 0);
        x.lot(5, 9, 1);
        x.lot(5, 8, 1);
        due("at the top: one week", x.kept(1, false), 16);
        // an early one gives way to dearer late ones only if it must
        x = new HouseClearedUp();
        x.lot(0, 50, 1);
        x.lot(1, 60, 1);
        x.lot(1, 70, 1);
        due("60 and 70", x.kept(1, true), 130);
    }

    private static void stair() {
        HouseClearedUp x = new HouseClearedUp();
        due("stair(0, 1)", x.stair(0, 1), false);
        due("stair(1, 0)", x.stair(1, 0), false);
        due("stair(0, 0)", x.stair(0, 0), false);
        due("stair(-1, 0)", x.stair(-1, 0), false);
        due("stair(0, 6)", x.stair(0, 6), false);
        due("stair(5, 0)", x.stair(5, 0), true);
        due("stair(0, 5)", x.stair(0, 5), false);
        due("climb(0, 5)", x.climb(0, 5), 1);
        due("climb(5, 0)", x.climb(5, 0), 1);
    }

    private static void gone() {
        HouseClearedUp x = new HouseClearedUp();
        due("gone(0, 2)", x.gone(0, 2), false);
        due("gone(2, 2)", x.gone(2, 2), false);
        due("gone(6, 5)", x.gone(6, 5), false);
        due("gone(5, -1)", x.gone(5, -1), false);
        due("gone(3, 2)", x.gone(3, 2), true);
        due("gone(2, 3)", x.gone(2, 3), false);
        due("climb(2, 3)", x.climb(2, 3), -1);
        due("again", x.stair(2, 3), true);
        due("climb(2, 3)", x.climb(2, 3), 1);
    }

    private static void climb() {
        HouseClearedUp x = new HouseClearedUp();
        due("climb(0, 5)", x.climb(0, 5), 5);
        due("climb(5, 1)", x.climb(5, 1), 4);
        due("climb(4, 4)", x.climb(4, 4), 0);
        due("climb(6, 6)", x.climb(6, 6), -1);
        due("climb(-1, 0)", x.climb(-1, 0), -1);
        due("climb(0, HIGH)", x.climb(0, HIGH), -1);
        due("climb(0, 32)", x.climb(0, 32), -1);
        due("climb(32, 0)", x.climb(32, 0), -1);
        x.stair(0, 4);
        due("climb(0, 3)", x.climb(0, 3), 2);
        x.gone(2, 3);
        due("climb(2, 3)", x.climb(2, 3), 4);
        x.gone(0, 4);
        due("climb(2, 3)", x.climb(2, 3), -1);
    }

    private static void cut() {
        HouseClearedUp x = new HouseClearedUp();
        due("cut(1, 1)", x.cut(1, 1), -1);
        due("cut(6, 1)", x.cut(6, 1), -1);
        due("cut(1, -1)", x.cut(1, -1), -1);
        due("cut(0, 5)", x.cut(0, 5), 1);
        x.stair(0, 5);
        due("a ring", x.cut(2, 4), 2);
        x.gone(0, 5);
        x.gone(1, 2);
        due("none leads there", x.cut(0, 5), 0);
        for (int a = 0; a < 6; a++) for (int b = 0; b < a; b++) x.stair(a, b);
        due("all stairs", x.cut(0, 5), 5);
        x.gone(5, 0);
        x.gone(5, 1);
        due("three at 5", x.cut(0, 5), 3);
        due("cut(0, 1)", x.cut(1, 0), 4);
    }

    private static void bridges() {
        HouseClearedUp x = new HouseClearedUp();
        due("five", x.bridges(), 5);
        x.stair(0, 2);
        due("a ring of three", x.bridges(), 3);
        x.stair(3, 5);
        due("two rings", x.bridges(), 1);
        x.gone(2, 3);
        due("none", x.bridges(), 0);
        x.gone(0, 2);
        due("two below", x.bridges(), 2);
        due("all stay", x.climb(0, 2), 2);
    }

    private static void odds() {
        HouseClearedUp x = new HouseClearedUp();
        due("odds(-1, 1)", x.odds(-1, 1), false);
        due("odds(6, 1)", x.odds(6, 1), false);
        due("odds(0, 11)", x.odds(0, 11), false);
        due("odds(0, -1)", x.odds(0, -1), false);
        due("still whole", x.leave(1, true), 1);
        due("odds(5, 10)", x.odds(5, 10), true);
        due("twenty", x.leave(1, true), -1);
        due("odds(0, 0)", x.odds(0, 0), true);
        due("whole", x.leave(1, false), 50);
    }

    private static void leave() {
        HouseClearedUp x = new HouseClearedUp();
        due("leave(-1)", x.leave(-1, false), -1);
        due("leave(7)", x.leave(7, false), -1);
        for (int n = 0; n <= 6; n++) {
            due("nothing is offered", x.leave(n, false), 0);
            due("in lowest terms", x.leave(n, true), 1);
        }
        x.odds(0, 9);
        x.odds(5, 1);
        due("leave(1)", x.leave(1, false), 5);
        due("leave(1)", x.leave(1, true), 1);
        // 1/10 * 50 + 9/10 * 5 = 19/2
        due("leave(2)", x.leave(2, false), 19);
        due("leave(2)", x.leave(2, true), 2);
        // 5 + 9/10 * 19/2 = 271/20
        due("leave(3)", x.leave(3, false), 271);
        due("leave(3)", x.leave(3, true), 20);
        // 50 * (1 - 0.9^6) = 50 * 468559 / 1000000
        due("leave(6)", x.leave(6, false), 468559);
        due("leave(6)", x.leave(6, true), 20000);
        x.odds(0, 8);
        due("nine together", x.leave(0, false), -1);
        due("nine together", x.leave(6, true), -1);
    }

    private static void takes() {
        HouseClearedUp x = new HouseClearedUp();
        due("takes(-1, 0)", x.takes(-1, 0), -1);
        due("takes(7, 0)", x.takes(7, 0), -1);
        due("takes(0, -1)", x.takes(0, -1), -1);
        due("takes(0, 6)", x.takes(0, 6), -1);
        due("takes(6, 0)", x.takes(6, 0), 1);
        x.odds(0, 5);
        due("half", x.takes(0, 0), -1);
        x.odds(4, 5);
        due("20 is as much as that mean", x.takes(1, 2), 1);
        due("10 isn't", x.takes(1, 1), 0);
        due("20 of 30", x.takes(2, 2), 0);
        due("30 of 30", x.takes(2, 3), 1);
        due("none any more", x.takes(0, 0), 1);
        due("level 5", x.takes(6, 5), 1);
        due("the most", x.takes(6, 4), 1);
        due("30 of 39.375", x.takes(6, 3), 0);
    }

    /** Weights 1 2 3 4 5, the last one with a bidder. */
    private static HouseClearedUp forAshes() {
        HouseClearedUp x = new HouseClearedUp();
        for (int i = 0; i < 5; i++) x.lot(0, i == 4 ? 0 : 99, i + 1);
        x.bidder(9);
        x.sell(4);
        return x;
    }

    private static void ash() {
        HouseClearedUp x = forAshes();
        due("ash(-1, 0)", x.ash(-1, 0), -1);
        due("ash(109, 0)", x.ash(109, 0), -1);
        due("ash(0, -1)", x.ash(0, -1), -1);
        due("ash(0, 13)", x.ash(0, 13), -1);
        due("ash(108, 12)", x.ash(108, 12), 0);
        due("nothing", x.ash(0, 0), 1);
        due("nothing of 1", x.ash(0, 1), 0);
        due("ash(5, 2)", x.ash(5, 2), 2);
        due("ash(5, 1): it is sold", x.ash(5, 1), 0);
        due("ash(10, 4)", x.ash(10, 4), 1);
        x.burn(0);
        due("what is burnt counts", x.ash(5, 2), 2);
        x.buy(4, 0);
        due("with the family", x.ash(5, 1), 0);
        x.burn(4);
        due("burnt then", x.ash(5, 1), 1);
        HouseClearedUp y = new HouseClearedUp();
        for (int i = 0; i < 12; i++) y.lot(0, 0, 9);
        due("all", y.ash(108, 12), 1);
        due("six of twelve", y.ash(54, 6), 924);
    }

    private static void burnt() {
        HouseClearedUp x = forAshes();
        due("burnt(-1, 0)", x.burnt(-1, 0, true), -1);
        due("burnt(109, 0)", x.burnt(109, 0, false), -1);
        due("burnt(0, 13)", x.burnt(0, 13, true), -1);
        due("burnt(0, -1)", x.burnt(0, -1, false), -1);
        due("1 + 4 or 2 + 3: in all", x.burnt(5, 2, true), 0);
        due("in none", x.burnt(5, 2, false), 0);
        due("1 + 2: in all", x.burnt(3, 2, true), 3);
        due("in none, of those that could be", x.burnt(3, 2, false), 12);
        due("1 + 2 + 4: in all", x.burnt(7, 3, true), 11);
        due("no set", x.burnt(50, 3, true), 0);
        due("no set", x.burnt(50, 3, false), 0);
        due("the empty set", x.burnt(0, 0, true), 0);
        due("none in it", x.burnt(0, 0, false), 15);
    }

    private static void said() {
        HouseClearedUp x = small();
        due("said(1, 0)", x.said(1, 0), -2);
        due("said(-2, 0)", x.said(-2, 0), -2);
        due("said(0, 11)", x.said(0, 11), -2);
        due("said(0, -1)", x.said(0, -1), -2);
        for (int i = 1; i <= 8; i++) due("said " + i, x.said(0, i % 11), i);
        due("a 9th", x.said(0, 0), -2);
        due("none any more", x.said(-1, 99), 0);
        due("about(6)", x.about(6), 0);
        due("said(0, 10)", x.said(0, 10), 1);
        due("said(0, 0)", x.said(0, 0), 2);
    }

    private static void whose() {
        HouseClearedUp x = small();
        due("without texts", x.whose(), 0);
        read(x, "warms 3;");
        read(x, "bids 1;");
        read(x, "warms 5-lot;");
        read(x, "warms 99;");
        due("nothing said: all", x.whose(), 15);
        x.said(0, 3);
        due("without: 3", x.whose(), 3);
        x.said(-1, 0);
        x.said(0, 5);
        due("5", x.whose(), 4);
        x.lot(0, 0, 1);
        x.said(1, 4);
        due("all are so", x.whose(), 4);
        x.said(1, 5);
        due("not all", x.whose(), 0);
        x.said(-1, 0);
        x.said(0, 10);
        due("10 at most", x.whose(), 8);
        HouseClearedUp y = small();
        read(y, "warms week;");
        y.said(0, 1);
        due("not yet", y.whose(), 0);
        y.week(1);
        due("as now", y.whose(), 1);
    }

    private static void dearest() {
        HouseClearedUp x = new HouseClearedUp();
        x.lot(0, 0, 1);
        due("without bidders", x.dearest(), -1);
        x.bidder(100);
        due("for nothing", x.dearest(), -1);
        x.bidder(1);
        x.want(0, 0, 1);
        due("for nothing", x.dearest(), -1);
        x.want(1, 0, 1);
        due("for 1", x.dearest(), 0);
        x.want(1, 0, 0);
        x.lot(5, 20, 1);
        x.want(0, 1, 10);
        x.lot(0, 21, 1);
        x.want(0, 2, 99);
        due("like ones: the lowest", x.dearest(), 1);
        x.lot(0, 22, 1);
        x.want(0, 3, 11);
        due("more", x.dearest(), 3);
        x.sell(3);
        due("in the house", x.dearest(), 1);
        x.burn(1);
        due("in the house", x.dearest(), 2);
    }

    private static void left() {
        HouseClearedUp x = small();
        x.lot(4, 99, 1);
        x.lot(4, 99, 1);
        due("left(0)", x.left(0), 1);
        due("left(4)", x.left(4), 6);
        due("left(5)", x.left(5), 0);
        due("left(-1)", x.left(-1), -1);
        due("left(6)", x.left(6), -1);
        x.sell(0);
        x.burn(1);
        due("left(0)", x.left(0), 0);
        due("left(4)", x.left(4), 4);
    }

    private static void ledger() {
        HouseClearedUp x = small();
        due("all", x.ledger(-1), 0);
        x.lot(0, 8, 1);
        x.lot(0, 6, 1);
        x.want(1, 1, 9);
        x.want(0, 2, 9);
        x.sell(0);
        x.sell(1);
        x.sell(2);
        due("all", x.ledger(-1), 37);
        due("ledger(0)", x.ledger(0), 33);
        due("ledger(1)", x.ledger(1), 4);
        due("ledger(2)", x.ledger(2), -2);
        due("ledger(-2)", x.ledger(-2), -2);
        x.want(0, 2, 0);
        x.buy(2, 0);
        due("what is bought back was sold", x.ledger(0), 33);
        x.undo();
        x.undo();
        due("what is taken back was not", x.ledger(0), 30);
    }

    private static void richest() {
        HouseClearedUp x = new HouseClearedUp();
        due("none", x.richest(), -1);
        x.bidder(0);
        due("purse 0", x.richest(), 0);
        x.bidder(7);
        x.bidder(7);
        due("of like ones the lowest", x.richest(), 1);
        x.lot(0, 14, 1);
        x.want(1, 0, 7);
        x.sell(0);
        due("after a sale", x.richest(), 2);
    }

    private static void image() {
        HouseClearedUp x = small();
        due("image()", x.image(), 0);
        x.week(3);
        due("image() then", x.image(), 3);
        due("nothing changed", x.about(4), 3);
        x.week(2);
        due("back()", x.back(), 3);
        due("undo then", x.undo(), 2);
        due("undo then", x.undo(), 1);
        due("undo then", x.undo(), 0);
        due("as ahead of all", x.of(0, 3), 0);
    }

    private static void back() {
        HouseClearedUp x = small();
        read(x, "warms 7;");
        x.by(0);
        x.bundle(0, 1, 5);
        x.said(0, 7);
        x.stair(0, 5);
        x.odds(0, 0);
        x.odds(5, 10);
        x.carry(0);
        feed(x, "sell 0");
        x.image();
        x.by(-1);
        x.week(2);
        x.want(0, 0, 1);
        x.undo();
        x.undo();
        x.undo();
        x.lot(1, 1, 1);
        x.bidder(1);
        x.bundle(-1, 0, 0);
        x.said(-1, 0);
        x.gone(0, 5);
        x.odds(0, 10);
        read(x, "sell 0");
        feed(x, "week");
        for (int time = 0; time < 2; time++) {
            due("back()", x.back(), 0);
            due("the text", x.about(3), 0);
            due("lots", x.about(0), 1);
            due("bidders", x.about(1), 2);
            due("steps", x.about(4), 1);
            due("bundles", x.about(5), 1);
            due("winners", x.winners(true), 5);
            due("said", x.whose(), 1);
            due("stairs", x.climb(0, 5), 1);
            due("odds", x.leave(1, false), 50);
            due("want", x.bids(0, 0), 40);
            due("floor", x.of(0, 0), 1);
            due("the tape is as it was", x.about(7), 4);
            due("the fault is as it was", x.fault(1), 6);
            due("undo", x.undo(), 0);
            due("floor ahead of it", x.of(0, 0), 0);
            x.week(5);
            x.want(0, 0, 2);
        }
    }

    private static void about() {
        HouseClearedUp x = small();
        x.lot(1, 1, 1);
        x.lot(1, 1, 1);
        read(x, "");
        x.by(0);
        x.week(4);
        for (int i = 0; i < 5; i++) x.bundle(0, 1, 1);
        for (int i = 0; i < 6; i++) x.said(0, 1);
        feed(x, "seventy");
        int[] all = {3, 2, 1, 0, 4, 5, 6, 7};
        for (int what = 0; what < 8; what++) due("about(" + what + ")", x.about(what), all[what]);
        for (int what : new int[] {-1, 8, LOW, HIGH}) due("about(" + what + ")", x.about(what), -2);
    }
}
