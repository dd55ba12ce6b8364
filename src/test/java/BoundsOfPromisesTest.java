import java.util.function.Supplier;

/** 'Promise 1' to 'Promise 47': what is answered for others, if there are too many, and if there is none. */
public final class BoundsOfPromisesTest {
    private static final int LOW = Bounds.LOW, HIGH = Bounds.HIGH;
    private static final Supplier<HouseClearedUp> LIVED = Bounds::lived, FULL = Bounds::full, EMPTY = HouseClearedUp::new;

    private static void due(String call, long got, long want) { Bounds.due(call, got, want); }

    private static void due(String call, boolean got, boolean want) { Bounds.due(call, got, want); }

    private static void refused(String call, Supplier<HouseClearedUp> made, Bounds.Call c, long answer) { Bounds.refused(call, made, c, answer); }

    /** Each of these is refused, in a house that was lived in, in an empty and in a full one. */
    private static void refusedAll(String call, Bounds.CallOf c, long answer, int... others) {
        for (int n : others) {
            refused(call + " of " + n, LIVED, x -> c.on(x, n), answer);
            refused(call + " of " + n + ", empty", EMPTY, x -> c.on(x, n), answer);
            refused(call + " of " + n + ", full", FULL, x -> c.on(x, n), answer);
        }
    }

    public static void main(String[] args) {
        told();
        tape();
        texts();
        steps();
        weeks();
        looks();
        books();
        bests();
        stairs();
        offers();
        ashes();
        last();
        Bounds.end();
    }

    // ---- 1 to 4

    private static void told() {
        Bounds.sentence("1: An empty house; THE IMAGE is this", () -> {
            int[] about = {0, 0, 0, -1, 0, 0, 0, 0}, is = {0, 0, 211, 0, 0};
            HouseClearedUp x = new HouseClearedUp();
            for (int time = 0; time < 2; time++) {
                for (int what = 0; what < 8; what++) due("about(" + what + ")", x.about(what), about[what]);
                for (int what = 0; what < 5; what++) due("is(" + what + ")", x.is(what), is[what]);
                due("book", x.book(-1, 0), 0);
                due("undo", x.undo(), -1);
                due("lots", x.of(0, 0), -2);
                due("bidders", x.ofBidder(0, 0), -2);
                due("bridges", x.bridges(), 5);
                due("leave", x.leave(6, false), 0);
                x.lot(0, 9, 9);
                x.bidder(9);
                x.week(3);
                x.stair(0, 5);
                x.odds(1, 1);
                x.bundle(0, 1, 1);
                x.said(0, 1);
                Bounds.ruledBy(x, "warms 1;");
                due("back", x.back(), 0);
            }
            refused("back at once", EMPTY, HouseClearedUp::back, 0);
            HouseClearedUp one = new HouseClearedUp(), other = new HouseClearedUp();
            one.lot(1, 1, 1);
            one.stair(0, 5);
            due("another object is another house", other.about(0), 0);
            due("with stairs of its own", other.climb(0, 5), 5);
        });
        Bounds.sentence("2: NONE for others", () -> {
            int[][] others = {{-1, 5, 5}, {6, 5, 5}, {LOW, 5, 5}, {HIGH, 5, 5}, {1, -1, 5}, {1, 100, 5}, {1, LOW, 5}, {1, HIGH, 5}, {1, 5, 0}, {1, 5, 10}, {1, 5, -1}, {1, 5, LOW}, {1, 5, HIGH}};
            for (int[] o : others) {
                refused("lot(" + o[0] + ", " + o[1] + ", " + o[2] + ")", LIVED, x -> x.lot(o[0], o[1], o[2]), -1);
                refused("lot in an empty house", EMPTY, x -> x.lot(o[0], o[1], o[2]), -1);
            }
        });
        Bounds.sentence("2: NONE if there are 12", () -> {
            for (int many = 10; many <= 12; many++) {
                HouseClearedUp x = new HouseClearedUp();
                for (int i = 0; i < many; i++) x.lot(0, 0, 1);
                due("one more than " + many, x.lot(5, 99, 9), many < 12 ? many : -1);
                due("lots", x.about(0), Math.min(12, many + 1));
            }
            refused("a 13th", FULL, x -> x.lot(0, 0, 1), -1);
        });
        Bounds.sentence("3: NONE for others", () -> refusedAll("bidder", HouseClearedUp::bidder, -1, -1, 10000, LOW, HIGH));
        Bounds.sentence("3: NONE if there are 5", () -> {
            for (int many = 3; many <= 5; many++) {
                HouseClearedUp x = new HouseClearedUp();
                for (int i = 0; i < many; i++) x.bidder(i);
                due("one more than " + many, x.bidder(9), many < 5 ? many : -1);
                due("bidders", x.about(1), Math.min(5, many + 1));
            }
            refused("a 6th", FULL, x -> x.bidder(9), -1);
        });
        Bounds.sentence("4: False for others", () -> {
            int[][] others = {{-1, 0, 9}, {3, 0, 9}, {5, 0, 9}, {LOW, 0, 9}, {HIGH, 0, 9}, {0, -1, 9}, {0, 6, 9}, {0, 12, 9}, {0, LOW, 9}, {0, HIGH, 9}, {0, 0, -1}, {0, 0, 100}, {0, 0, LOW}, {0, 0, HIGH}};
            for (int[] o : others) refused("want(" + o[0] + ", " + o[1] + ", " + o[2] + ")", LIVED, x -> Bounds.bit(x.want(o[0], o[1], o[2])), 0);
            refused("in an empty house", EMPTY, x -> Bounds.bit(x.want(0, 0, 9)), 0);
            refused("lot 12 of 12", FULL, x -> Bounds.bit(x.want(0, 12, 9)), 0);
            refused("bidder 5 of 5", FULL, x -> Bounds.bit(x.want(5, 0, 9)), 0);
            due("the last ones", Bounds.lived().want(2, 5, 99), true);
            due("the last ones", Bounds.full().want(4, 11, 0), true);
        });
        Bounds.sentence("2, 3, 4: no STEP", () -> {
            HouseClearedUp x = Bounds.lived();
            x.lot(1, 1, 1);
            x.bidder(1);
            x.want(0, 0, 1);
            due("steps", x.about(4), 6);
        });
    }

    // ---- 5 to 9

    private static void tape() {
        Bounds.sentence("5: Twenty bytes come behind the tape, the highest of a first: how many it has", () -> {
            HouseClearedUp x = new HouseClearedUp();
            for (int i = 1; i <= 15; i++) due("feed", x.feed(i, i, i, i, i), 20 * i);
            // each byte has a place of its own: a sign that is none stands there, and blanks elsewhere
            for (int at = 0; at < 20; at++) {
                int[] words = {0x20202020, 0x20202020, 0x20202020, 0x20202020, 0x20202020};
                words[at / 4] ^= (0x20 ^ 0xff) << 24 - at % 4 * 8;
                HouseClearedUp y = new HouseClearedUp();
                y.feed(words[0], words[1], words[2], words[3], words[4]);
                due("text", y.text(), -1);
                due("its place", y.fault(1), at);
            }
        });
        Bounds.sentence("5: NONE, and none come, if there would be more than 300", () -> {
            for (int length : new int[] {0, 1, 279, 280, 281, 299, 300}) {
                Supplier<HouseClearedUp> made = () -> {
                    HouseClearedUp y = new HouseClearedUp();
                    for (int i = 0; i < 15; i++) y.feed(0x20202020, 0x20202020, 0x20202020, 0x20202020, 0x20202020);
                    y.end(length);
                    return y;
                };
                if (length > 280) {
                    refused("feed behind " + length, made, y -> y.feed(-1, -1, -1, -1, -1), -1);
                    continue;
                }
                HouseClearedUp x = made.get();
                due("feed behind " + length, x.feed(0x3f202020, 0x20202020, 0x20202020, 0x20202020, 0x20202020), length + 20);
                due("about(7)", x.about(7), length + 20);
                x.text();
                due("behind the tape", x.fault(1), length);
            }
            refused("feed", FULL, x -> x.feed(1, 2, 3, 4, 5), -1);
        });
        Bounds.sentence("6: The tape has its first n bytes alone: n", () -> {
            for (int n = 0; n <= 20; n++) {
                HouseClearedUp x = new HouseClearedUp();
                x.feed(0x20202020, 0x20202020, 0x203f2020, 0x20202020, 0x20202020);
                due("end", x.end(n), n);
                due("about(7)", x.about(7), n);
                due("text", x.text(), n > 9 ? -1 : 0);
                due("fault(1)", x.fault(1), n > 9 ? 9 : -1);
            }
        });
        Bounds.sentence("6: alone: what was behind them is not read", () -> {
            String[] whole = {"week 100;", "week 1; ;", "sells 0;", "bids if 1<=2 then 3 else 4 end;"};
            int[] n = {6, 8, 4, 10};
            int[] place = {6, -1, 4, 10};
            for (int i = 0; i < whole.length; i++) {
                HouseClearedUp x = new HouseClearedUp();
                Bounds.feed(x, whole[i]);
                x.end(n[i]);
                due("text of " + whole[i].substring(0, n[i]), x.text(), place[i] < 0 ? 0 : -1);
                due("fault(0)", x.fault(0), place[i] < 0 ? 0 : 1);
                due("fault(1)", x.fault(1), place[i]);
            }
        });
        Bounds.sentence("6: NONE, and nothing is done, if it has not so many, or n is below 0", () -> {
            // the tape of the house that was lived in has 16 bytes
            due("bytes", Bounds.lived().about(7), 16);
            due("end(16)", Bounds.lived().end(16), 16);
            for (int n : new int[] {17, 18, 20, 300, -1, -2, LOW, HIGH}) refused("end(" + n + ")", LIVED, x -> x.end(n), -1);
            for (int n : new int[] {1, -1, LOW, HIGH}) refused("end(" + n + ") of an empty one", EMPTY, x -> x.end(n), -1);
            for (int n : new int[] {301, -1}) refused("end(" + n + ") of a full one", FULL, x -> x.end(n), -1);
            due("end(300) of a full one", Bounds.full().end(300), 300);
            due("end(0) of an empty one", new HouseClearedUp().end(0), 0);
        });
    }

    private static void texts() {
        Bounds.sentence("7: The tape (empty then) is a TEXT: its number", () -> {
            HouseClearedUp x = new HouseClearedUp();
            for (int i = 0; i < 4; i++) {
                Bounds.feed(x, "warms " + i + ";");
                due("text", x.text(), i);
                due("the tape", x.about(7), 0);
                due("texts", x.about(2), i + 1);
            }
            due("an empty tape is one, too", new HouseClearedUp().text(), 0);
        });
        Bounds.sentence("7: NONE: it has a FAULT", () -> {
            HouseClearedUp x = Bounds.lived();
            Bounds.feed(x, "sell 12;");
            due("text", x.text(), -1);
            due("texts", x.about(2), 2);
            due("the text that rules", x.about(3), 0);
            due("the tape is empty then", x.about(7), 0);
            due("the next one has the number", Bounds.read(x, "sell 11;"), 2);
        });
        Bounds.sentence("7: NONE: (the tape stays) there are 4", () -> {
            refused("a 5th", FULL, HouseClearedUp::text, -1);
            HouseClearedUp x = Bounds.full();
            due("bytes", x.about(7), 300);
            x.end(8);
            due("a 5th", x.text(), -1);
            due("the tape stays", x.about(7), 8);
            x.end(0);
            due("nor an empty one", x.text(), -1);
            HouseClearedUp y = new HouseClearedUp();
            for (int i = 0; i < 4; i++) Bounds.read(y, "");
            Bounds.feed(y, "week 61;");
            due("nor a faulty one", y.text(), -1);
            due("it isn't read", y.fault(0), 0);
            due("it stays", y.about(7), 8);
            y.back();
            due("without texts it is read", y.text(), -1);
            due("its fault", y.fault(0), 2);
        });
        Bounds.sentence("8: 0 its FAULT (0 without), 1 its place (NONE without)", () -> {
            HouseClearedUp x = new HouseClearedUp();
            Bounds.read(x, "week 0;");
            due("fault(0)", x.fault(0), 2);
            due("fault(1)", x.fault(1), 5);
            Bounds.read(x, "week 1;");
            due("fault(0)", x.fault(0), 0);
            due("fault(1)", x.fault(1), -1);
            Bounds.read(x, "?");
            due("at the very first byte", x.fault(1), 0);
        });
        Bounds.sentence("8: NONE for others, and ahead of any", () -> {
            HouseClearedUp x = new HouseClearedUp();
            for (int what : new int[] {0, 1, 2, -1}) due("ahead of any", x.fault(what), -1);
            Bounds.feed(x, "?");
            due("fed isn't read", x.fault(0), -1);
            due("fed isn't read", x.fault(1), -1);
            x.text();
            for (int what : new int[] {-1, 2, 3, LOW, HIGH}) due("fault(" + what + ")", x.fault(what), -1);
        });
        Bounds.sentence("9: THE TEXT (NONE: none): true. False for others", () -> {
            due("by(-1)", Bounds.lived().by(-1), true);
            due("by(1)", Bounds.lived().by(1), true);
            for (int text : new int[] {-2, 2, 3, 4, LOW, HIGH}) refused("by(" + text + ")", LIVED, x -> Bounds.bit(x.by(text)), 0);
            refused("by(0) without texts", EMPTY, x -> Bounds.bit(x.by(0)), 0);
            refused("by(4) of four", FULL, x -> Bounds.bit(x.by(4)), 0);
            HouseClearedUp x = Bounds.lived();
            x.by(1);
            due("about(3)", x.about(3), 1);
            x.by(-1);
            due("about(3)", x.about(3), -1);
            due("without texts none is one", new HouseClearedUp().by(-1), true);
        });
    }

    // ---- 10 to 17

    private static void steps() {
        Bounds.sentence("10: PRICE (NONE: it is passed in). -2, if it can't be, and for others", () -> {
            due("price", Bounds.one(0, 20, 12).sell(0), 10);
            due("price 0", Bounds.one(0, 0, 12).sell(0), 0);
            due("passed in", Bounds.one(0, 20, 9).sell(0), -1);
            for (int lot : new int[] {0, 1, 2, 6, 12, -1, LOW, HIGH}) refused("sell(" + lot + ")", LIVED, x -> x.sell(lot), -2);
            refused("sell in an empty house", EMPTY, x -> x.sell(0), -2);
            refused("sell(12) of twelve", FULL, x -> x.sell(12), -2);
        });
        Bounds.sentence("11: False, if it can't be, and for others", () -> {
            for (int lot : new int[] {0, 1, 2, 4, 5, 6, 12, -1, LOW, HIGH}) refused("carry(" + lot + ")", LIVED, x -> Bounds.bit(x.carry(lot)), 0);
            due("carry(3)", Bounds.lived().carry(3), true);
            refused("carry in an empty house", EMPTY, x -> Bounds.bit(x.carry(0)), 0);
            refused("carry(12) of twelve", FULL, x -> Bounds.bit(x.carry(12)), 0);
            refused("carry from 5", FULL, x -> Bounds.bit(x.carry(11)), 0);
        });
        Bounds.sentence("12: False, if it can't be, and for others", () -> {
            for (int lot : new int[] {0, 2, 6, 12, -1, LOW, HIGH}) refused("burn(" + lot + ")", LIVED, x -> Bounds.bit(x.burn(lot)), 0);
            for (int lot : new int[] {1, 3, 4, 5}) due("burn(" + lot + ")", Bounds.lived().burn(lot), true);
            refused("burn in an empty house", EMPTY, x -> Bounds.bit(x.burn(0)), 0);
            refused("burn(12) of twelve", FULL, x -> Bounds.bit(x.burn(12)), 0);
        });
        Bounds.sentence("13: False, if it can't be, and for others", () -> {
            // lot 0 is with bidder 2, whose want of it is 54; 18 are in takings
            int[][] others = {{0, 18}, {0, 19}, {0, -1}, {0, 1000}, {0, LOW}, {0, HIGH}, {1, 0}, {2, 0}, {3, 0}, {6, 0}, {-1, 0}, {LOW, 0}, {HIGH, 0}};
            for (int[] o : others) refused("buy(" + o[0] + ", " + o[1] + ")", LIVED, x -> Bounds.bit(x.buy(o[0], o[1])), 0);
            Supplier<HouseClearedUp> cheap = () -> {
                HouseClearedUp x = Bounds.lived();
                x.want(2, 0, 17);
                return x;
            };
            refused("below its want", cheap, x -> Bounds.bit(x.buy(0, 16)), 0);
            due("its want", cheap.get().buy(0, 17), true);
            due("all takings", cheap.get().buy(0, 18), true);
            refused("more than takings", cheap, x -> Bounds.bit(x.buy(0, 19)), 0);
            refused("buy in an empty house", EMPTY, x -> Bounds.bit(x.buy(0, 0)), 0);
            refused("buy(12) of twelve", FULL, x -> Bounds.bit(x.buy(12, 0)), 0);
        });
    }

    private static void weeks() {
        Bounds.sentence("14: WEEKS pass (1 .. 60). NONE for others", () -> {
            refusedAll("week", HouseClearedUp::week, -1, 0, -1, 61, LOW, HIGH);
            for (int n : new int[] {1, 2, 59, 60}) {
                HouseClearedUp x = Bounds.lived();
                due("sold in " + n, x.week(n), Bounds.lived().foretold(n, 2, 0));
                due("week", x.is(0), 1 + n);
                due("steps", x.about(4), Math.min(30, 6 + n));
            }
        });
        Bounds.sentence("14: or beyond 9999 (nothing is done then)", () -> {
            for (int left = 0; left <= 2; left++) {
                int from = 9999 - left;
                for (int n = 1; n <= 3; n++) {
                    int it = n;
                    if (n > left) refused("week(" + n + ") at " + from, () -> Bounds.atWeek(from), x -> x.week(it), -1);
                    else due("week(" + n + ") at " + from, Bounds.atWeek(from).week(n), 1);
                }
            }
            refused("week(HIGH)", () -> Bounds.atWeek(9999), x -> x.week(HIGH), -1);
        });
        Bounds.sentence("15: NONE: all is done; -2 for others", () -> {
            for (int text : new int[] {-1, -2, 2, 3, 4, LOW, HIGH}) refused("played(" + text + ")", LIVED, x -> x.played(text), -2);
            refused("played in an empty house", EMPTY, x -> x.played(0), -2);
            refused("played(4) of four", FULL, x -> x.played(4), -2);
            due("laws alone", Bounds.lived().played(0), -1);
            HouseClearedUp x = Bounds.lived();
            due("all", x.played(1), -1);
            due("week", x.is(0), 3);
        });
        Bounds.sentence("16: NONE for others", () -> {
            refusedAll("years by", (x, n) -> x.years(n, 5), -1, -1, 10000, LOW, HIGH);
            refusedAll("years", (x, n) -> x.years(5, n), -1, 0, -1, 41, LOW, HIGH);
        });
        Bounds.sentence("17: how many can be yet. NONE: there is none", () -> {
            refused("undo in an empty house", EMPTY, HouseClearedUp::undo, -1);
            HouseClearedUp x = Bounds.lived();
            for (int can = 5; can >= 0; can--) due("undo", x.undo(), can);
            due("none", x.undo(), -1);
            due("none again", x.undo(), -1);
            due("lots are as told", x.about(0), 6);
            refused("undo behind all", () -> {
                HouseClearedUp y = Bounds.lived();
                for (int i = 0; i < 6; i++) y.undo();
                return y;
            }, HouseClearedUp::undo, -1);
        });
    }

    // ---- 18 to 22

    private static void looks() {
        Bounds.sentence("18: 0 FLOOR .. 7 PRICE. -2 for others", () -> {
            HouseClearedUp x = Bounds.lived();
            for (int what : new int[] {-1, 8, 9, LOW, HIGH}) due("of(0, " + what + ")", x.of(0, what), -2);
            for (int lot : new int[] {-1, -2, 6, 12, LOW, HIGH}) for (int what = 0; what < 8; what++) due("of(" + lot + ", " + what + ")", x.of(lot, what), -2);
            due("of an empty house", new HouseClearedUp().of(0, 0), -2);
            due("of(12, 0) of twelve", Bounds.full().of(12, 0), -2);
            due("of(11, 1) of twelve", Bounds.full().of(11, 1), 88);
        });
        Bounds.sentence("18: 4 reserve now, 5 warms now, wherever it is", () -> {
            HouseClearedUp x = Bounds.lived();
            int[] worths = {20, 30, 5, 50, 60, 40};
            for (int lot = 0; lot < 6; lot++) {
                due("reserve of " + lot, x.of(lot, 4), worths[lot] / 3);
                due("warms of " + lot, x.of(lot, 5), 4);
            }
        });
        Bounds.sentence("18: 6 who would win it now, 7 PRICE (NONE: nobody, or it isn't in the house)", () -> {
            HouseClearedUp x = Bounds.lived();
            for (int lot = 0; lot < 3; lot++) {
                due("who, of " + lot, x.of(lot, 6), -1);
                due("price of " + lot, x.of(lot, 7), -1);
            }
            for (int lot = 3; lot < 6; lot++) {
                HouseClearedUp y = Bounds.lived();
                int who = y.of(lot, 6), price = y.of(lot, 7);
                due("sell(" + lot + ")", y.sell(lot), price);
                due("where", y.of(lot, 3), 3 + who);
            }
            HouseClearedUp two = Bounds.one(0, 20, 12, 11);
            two.lot(0, 40, 1);
            two.want(1, 1, 30);
            int[][] asked = {{0, 7, 11}, {1, 7, 20}, {0, 6, 0}, {1, 6, 1}, {0, 7, 11}, {1, 6, 1}, {0, 6, 0}, {1, 7, 20}};
            for (int[] a : asked) due("each by itself, of(" + a[0] + ", " + a[1] + ")", two.of(a[0], a[1]), a[2]);
            HouseClearedUp none = Bounds.one(0, 20, 9);
            due("nobody", none.of(0, 6), -1);
            due("nobody", none.of(0, 7), -1);
            HouseClearedUp without = Bounds.one(0, 0);
            due("without bidders", without.of(0, 6), -1);
            due("without bidders", without.of(0, 7), -1);
            HouseClearedUp free = Bounds.one(0, 0, 0);
            due("bidder 0", free.of(0, 6), 0);
            due("for 0", free.of(0, 7), 0);
        });
        Bounds.sentence("19: 0 PURSE, 1 LOTS it has (bits), 2 WANTS of these together. -2 for others", () -> {
            HouseClearedUp x = Bounds.lived();
            for (int what : new int[] {-1, 3, LOW, HIGH}) due("ofBidder(0, " + what + ")", x.ofBidder(0, what), -2);
            for (int b : new int[] {-1, -2, 3, 5, LOW, HIGH}) for (int what = 0; what < 3; what++) due("ofBidder(" + b + ", " + what + ")", x.ofBidder(b, what), -2);
            due("ofBidder(5, 0) of five", Bounds.full().ofBidder(5, 0), -2);
            due("ofBidder(4, 0) of five", Bounds.full().ofBidder(4, 0) >= 0 ? 1 : 0, 1);
            due("none", x.ofBidder(0, 1), 0);
            due("none", x.ofBidder(0, 2), 0);
            due("lot 0", x.ofBidder(2, 1), 1);
            due("its want", x.ofBidder(2, 2), 54);
            HouseClearedUp all = new HouseClearedUp();
            all.bidder(9);
            for (int i = 0; i < 12; i++) {
                all.lot(0, 0, 1);
                all.want(0, i, 99);
            }
            all.week(1);
            due("all lots", all.ofBidder(0, 1), 4095);
            due("all wants", all.ofBidder(0, 2), 12 * 99);
        });
        Bounds.sentence("20: What a BIDDER bids for a LOT now. NONE for others", () -> {
            HouseClearedUp x = Bounds.lived();
            for (int n : new int[] {-1, -2, 3, 5, LOW, HIGH}) due("bids(" + n + ", 0)", x.bids(n, 0), -1);
            for (int n : new int[] {-1, -2, 6, 12, LOW, HIGH}) due("bids(0, " + n + ")", x.bids(0, n), -1);
            due("bids(2, 5)", x.bids(2, 5), 29);
            due("in an empty house", new HouseClearedUp().bids(0, 0), -1);
            due("bids(5, 0) of five", Bounds.full().bids(5, 0), -1);
            due("bids(0, 12) of twelve", Bounds.full().bids(0, 12), -1);
            due("bids(4, 11) of twelve", Bounds.full().bids(4, 11), 1);
        });
        Bounds.sentence("21: 0 WEEK .. 4 LOTS there (bits). -2 for others", () -> {
            HouseClearedUp x = Bounds.lived();
            for (int what : new int[] {-1, -2, 5, LOW, HIGH}) due("is(" + what + ")", x.is(what), -2);
            int[] is = {1, 18, 211, 1, 8};
            for (int what = 0; what < 5; what++) due("is(" + what + ")", x.is(what), is[what]);
            due("none there", new HouseClearedUp().is(4), 0);
        });
    }

    private static void books() {
        Bounds.sentence("22: how many (i NONE); the i-th, from the eldest on", () -> {
            HouseClearedUp x = Bounds.lived();
            due("how many", x.book(-1, 0), 2);
            int[][] rows = {{0, 0, 2, 37}, {0, 1, 1, 31}};
            for (int i = 0; i < 2; i++) for (int what = 0; what < 4; what++) due("book(" + i + ", " + what + ")", x.book(i, what), rows[i][what]);
        });
        Bounds.sentence("22: -2 if there is none such, and for others", () -> {
            HouseClearedUp x = Bounds.lived();
            for (int i : new int[] {-2, 2, 3, 29, 30, LOW, HIGH}) for (int what = 0; what < 4; what++) due("book(" + i + ", " + what + ")", x.book(i, what), -2);
            for (int what : new int[] {-1, 4, LOW, HIGH}) due("book(0, " + what + ")", x.book(0, what), -2);
            due("of an empty one", new HouseClearedUp().book(0, 0), -2);
            due("of an empty one", new HouseClearedUp().book(-1, 0), 0);
        });
    }

    // ---- 23 to 28

    private static void bests() {
        Bounds.sentence("23: -2 for others", () -> {
            HouseClearedUp x = Bounds.lived();
            for (int n : new int[] {0, -1, 61, LOW, HIGH}) for (int what = 0; what < 3; what++) due("foretold(" + n + ", " + what + ", 0)", x.foretold(n, what, 0), -2);
            for (int what : new int[] {-1, 3, LOW, HIGH}) due("foretold(1, " + what + ", 0)", x.foretold(1, what, 0), -2);
            for (int lot : new int[] {-1, 6, 12, LOW, HIGH}) due("foretold(1, 1, " + lot + ")", x.foretold(1, 1, lot), -2);
            due("the last lot", x.foretold(1, 1, 5), 0);
            due("of no lot takings", x.foretold(1, 0, 99), x.foretold(1, 0, 0));
            due("of no lot how many", x.foretold(60, 2, -5), x.foretold(60, 2, 0));
            due("in an empty house", new HouseClearedUp().foretold(60, 0, 0), 0);
            due("in an empty house", new HouseClearedUp().foretold(60, 1, 0), -2);
        });
        Bounds.sentence("24: -2 for others", () -> {
            HouseClearedUp x = Bounds.lived();
            for (int lots : new int[] {0, 1, 2, 4, 9, 64, 72, -1, -8, LOW, HIGH, 1 << 12}) due("order(" + lots + ", -1)", x.order(lots, -1), -2);
            for (int i : new int[] {-2, 3, 4, LOW, HIGH}) due("order(56, " + i + ")", x.order(56, i), -2);
            due("order(56, 2)", x.order(56, 2), 5);
            due("in an empty house", new HouseClearedUp().order(1, -1), -2);
            due("in an empty house", new HouseClearedUp().order(0, -1), -2);
        });
        Bounds.sentence("25: how many there are (bidder NONE: none any more)", () -> {
            HouseClearedUp x = Bounds.full();
            due("none any more", x.bundle(-1, 99, -99), 0);
            due("how many", x.about(5), 0);
            due("winners", x.winners(true), 0);
            due("one", x.bundle(4, 4095, 9999), 1);
            due("in an empty house", new HouseClearedUp().bundle(-1, LOW, HIGH), 0);
        });
        Bounds.sentence("25: -2 for others, or if there are 8", () -> {
            int[][] others = {{-2, 1, 5}, {3, 1, 5}, {5, 1, 5}, {LOW, 1, 5}, {HIGH, 1, 5}, {0, 0, 5}, {0, 64, 5}, {0, 65, 5}, {0, -1, 5}, {0, LOW, 5}, {0, HIGH, 5}, {0, 1, -1}, {0, 1, 10000}, {0, 1, LOW}, {0, 1, HIGH}};
            for (int[] o : others) refused("bundle(" + o[0] + ", " + o[1] + ", " + o[2] + ")", LIVED, x -> x.bundle(o[0], o[1], o[2]), -2);
            refused("in an empty house", EMPTY, x -> x.bundle(0, 1, 5), -2);
            refused("a 9th", FULL, x -> x.bundle(0, 1, 5), -2);
            HouseClearedUp x = Bounds.lived();
            for (int i = 4; i <= 8; i++) due("the " + i + "th", x.bundle(0, 1, i), i);
            due("a 9th", x.bundle(0, 1, 9), -2);
        });
        Bounds.sentence("26: WINNERS: BUNDLES (bits), PRICES together", () -> {
            due("without any", new HouseClearedUp().winners(false), 0);
            due("without any", new HouseClearedUp().winners(true), 0);
            HouseClearedUp x = Bounds.lived();
            due("the second and the third", x.winners(false), 6);
            due("together", x.winners(true), 55);
        });
        Bounds.sentence("27: NONE for others", () -> {
            HouseClearedUp x = Bounds.lived();
            for (int b : new int[] {-1, -2, 3, 5, LOW, HIGH}) due("pays(" + b + ")", x.pays(b), -1);
            int[] pays = {0, 10, 15};
            for (int b = 0; b < 3; b++) due("pays(" + b + ")", x.pays(b), pays[b]);
            due("in an empty house", new HouseClearedUp().pays(0), -1);
            due("pays(5) of five", Bounds.full().pays(5), -1);
        });
        Bounds.sentence("28: NONE for others", () -> {
            HouseClearedUp x = Bounds.lived();
            for (int k : new int[] {0, -1, 13, LOW, HIGH}) {
                due("kept(" + k + ", false)", x.kept(k, false), -1);
                due("kept(" + k + ", true)", x.kept(k, true), -1);
            }
            due("kept(1)", x.kept(1, false), 8 + 16 + 32);
            due("in an empty house", new HouseClearedUp().kept(12, true), 0);
        });
    }

    // ---- 29 to 36

    private static void stairs() {
        int[][] others = {{-1, 0}, {0, -1}, {6, 5}, {5, 6}, {LOW, 0}, {0, LOW}, {HIGH, 0}, {0, HIGH}, {32, 0}, {0, 33}, {2, 2}};
        Bounds.sentence("29: False for others (unlike FLOORS), and if there is one", () -> {
            for (int[] o : others) refused("stair(" + o[0] + ", " + o[1] + ")", LIVED, x -> Bounds.bit(x.stair(o[0], o[1])), 0);
            refused("there is one", LIVED, x -> Bounds.bit(x.stair(0, 3)), 0);
            refused("there is one, the other way", LIVED, x -> Bounds.bit(x.stair(3, 0)), 0);
            due("the one that is gone", Bounds.lived().stair(2, 1), true);
            due("the edges", Bounds.lived().stair(0, 5), true);
            due("the edges", Bounds.lived().stair(5, 0), true);
        });
        Bounds.sentence("30: False, if there is none, and for others", () -> {
            for (int[] o : others) refused("gone(" + o[0] + ", " + o[1] + ")", LIVED, x -> Bounds.bit(x.gone(o[0], o[1])), 0);
            refused("there is none", LIVED, x -> Bounds.bit(x.gone(1, 2)), 0);
            refused("there is none, the other way", LIVED, x -> Bounds.bit(x.gone(2, 1)), 0);
            due("one", Bounds.lived().gone(0, 3), true);
            due("the other way", Bounds.lived().gone(3, 0), true);
            due("the edges", Bounds.lived().gone(0, 1), true);
            due("the edges", Bounds.lived().gone(5, 4), true);
        });
        Bounds.sentence("31: NONE: none, and for others", () -> {
            HouseClearedUp x = Bounds.lived();
            for (int[] o : others) due("climb(" + o[0] + ", " + o[1] + ")", x.climb(o[0], o[1]), o[0] == 2 ? 0 : -1);
            due("like ones that are no floors", x.climb(6, 6), -1);
            due("like ones that are no floors", x.climb(-1, -1), -1);
            x.gone(0, 1);
            due("none", x.climb(1, 0), -1);
            due("none", x.climb(0, 1), -1);
            due("itself", x.climb(1, 1), 0);
        });
        Bounds.sentence("32: NONE for others (unlike FLOORS)", () -> {
            HouseClearedUp x = Bounds.lived();
            for (int[] o : others) due("cut(" + o[0] + ", " + o[1] + ")", x.cut(o[0], o[1]), -1);
            for (int f = 0; f < 6; f++) due("cut of like ones", x.cut(f, f), -1);
            x.gone(0, 1);
            due("none leads there: 0, not NONE", x.cut(0, 1), 0);
        });
        Bounds.sentence("33: BRIDGES", () -> {
            due("of a tree all", Bounds.lived().bridges(), 5);
            HouseClearedUp x = Bounds.lived();
            x.stair(1, 2);
            due("a ring of four", x.bridges(), 2);
        });
    }

    private static void offers() {
        Bounds.sentence("34: False for others (0 .. 5; 0 .. 10)", () -> {
            for (int level : new int[] {-1, 6, LOW, HIGH}) refused("odds(" + level + ", 3)", LIVED, x -> Bounds.bit(x.odds(level, 3)), 0);
            for (int odds : new int[] {-1, 11, LOW, HIGH}) refused("odds(3, " + odds + ")", LIVED, x -> Bounds.bit(x.odds(3, odds)), 0);
            for (int level : new int[] {0, 5}) for (int odds : new int[] {0, 10}) due("odds(" + level + ", " + odds + ")", Bounds.lived().odds(level, odds), true);
        });
        Bounds.sentence("35: NONE for others, and if ODDS are not 10 together", () -> {
            HouseClearedUp x = Bounds.lived();
            for (int n : new int[] {-1, 7, LOW, HIGH}) {
                due("leave(" + n + ", false)", x.leave(n, false), -1);
                due("leave(" + n + ", true)", x.leave(n, true), -1);
            }
            due("leave(0, false)", x.leave(0, false), 0);
            due("leave(0, true)", x.leave(0, true), 1);
            due("leave(1, false)", x.leave(1, false), 21);
            for (int odds : new int[] {3, 5}) {
                x.odds(0, odds);
                for (int n = 0; n <= 6; n++) {
                    due("not 10 together", x.leave(n, false), -1);
                    due("not 10 together", x.leave(n, true), -1);
                }
            }
            x.odds(0, 4);
            due("10 again", x.leave(1, true), 1);
        });
        Bounds.sentence("36: (1, 0). NONE for others, likewise", () -> {
            HouseClearedUp x = Bounds.lived();
            for (int n : new int[] {-1, 7, LOW, HIGH}) due("takes(" + n + ", 0)", x.takes(n, 0), -1);
            for (int level : new int[] {-1, 6, LOW, HIGH}) due("takes(0, " + level + ")", x.takes(0, level), -1);
            due("takes(1, 2)", x.takes(1, 2), 0);
            due("takes(1, 3)", x.takes(1, 3), 1);
            due("takes(6, 5)", x.takes(6, 5), 1);
            for (int odds : new int[] {3, 5}) {
                x.odds(0, odds);
                for (int n = 0; n <= 6; n++) due("not 10 together", x.takes(n, 5), -1);
            }
        });
    }

    // ---- 37 to 44

    private static void ashes() {
        Bounds.sentence("37: NONE for others", () -> {
            HouseClearedUp x = Bounds.lived();
            for (int weight : new int[] {-1, 109, LOW, HIGH}) due("ash(" + weight + ", 1)", x.ash(weight, 1), -1);
            for (int many : new int[] {-1, 13, LOW, HIGH}) due("ash(5, " + many + ")", x.ash(5, many), -1);
            due("ash(108, 12)", x.ash(108, 12), 0);
            due("ash(0, 0)", x.ash(0, 0), 1);
        });
        Bounds.sentence("38: NONE for others", () -> {
            HouseClearedUp x = Bounds.lived();
            for (boolean all : new boolean[] {true, false}) {
                for (int weight : new int[] {-1, 109, LOW, HIGH}) due("burnt(" + weight + ", 1)", x.burnt(weight, 1, all), -1);
                for (int many : new int[] {-1, 13, LOW, HIGH}) due("burnt(5, " + many + ")", x.burnt(5, many, all), -1);
                due("burnt(108, 12)", x.burnt(108, 12, all), 0);
            }
            due("burnt(0, 0, false)", x.burnt(0, 0, false), 4 + 8 + 16 + 32);
        });
        Bounds.sentence("39: how many there are (lot NONE: none any more)", () -> {
            HouseClearedUp x = Bounds.full();
            due("none any more", x.said(-1, 99), 0);
            due("how many", x.about(6), 0);
            due("one", x.said(11, 10), 1);
            due("in an empty house", new HouseClearedUp().said(-1, LOW), 0);
        });
        Bounds.sentence("39: -2 for others, or if there are 8", () -> {
            int[][] others = {{-2, 5}, {6, 5}, {12, 5}, {LOW, 5}, {HIGH, 5}, {0, -1}, {0, 11}, {0, LOW}, {0, HIGH}};
            for (int[] o : others) refused("said(" + o[0] + ", " + o[1] + ")", LIVED, x -> x.said(o[0], o[1]), -2);
            refused("in an empty house", EMPTY, x -> x.said(0, 5), -2);
            refused("a 9th", FULL, x -> x.said(0, 5), -2);
            HouseClearedUp x = Bounds.lived();
            for (int i = 3; i <= 8; i++) due("the " + i + "th", x.said(0, i), i);
            due("a 9th", x.said(0, 9), -2);
        });
        Bounds.sentence("40: WHOSE LAW (bits)", () -> {
            due("without texts", new HouseClearedUp().whose(), 0);
            due("the first", Bounds.lived().whose(), 1);
            HouseClearedUp x = Bounds.full();
            due("all said 2", x.whose(), 5);
            x.said(-1, 0);
            due("nothing said", x.whose(), 15);
            x.said(0, 3);
            due("3, without", x.whose(), 10);
        });
    }

    private static void last() {
        Bounds.sentence("41: NONE: none", () -> {
            due("in an empty house", new HouseClearedUp().dearest(), -1);
            due("for nothing", Bounds.one(0, 0, 9).dearest(), -1);
            due("for 1", Bounds.one(0, 0, 1, 9).dearest(), 0);
        });
        Bounds.sentence("42: NONE for others", () -> {
            HouseClearedUp x = Bounds.lived();
            for (int f : new int[] {-1, 6, LOW, HIGH}) due("left(" + f + ")", x.left(f), -1);
            int[] left = {0, 8, 16, 0, 0, 32};
            for (int f = 0; f <= 5; f++) due("left(" + f + ")", x.left(f), left[f]);
        });
        Bounds.sentence("43: -2 for others", () -> {
            HouseClearedUp x = Bounds.lived();
            for (int b : new int[] {-2, 3, 5, LOW, HIGH}) due("ledger(" + b + ")", x.ledger(b), -2);
            int[] due = {68, 0, 31, 37};
            for (int b = -1; b < 3; b++) due("ledger(" + b + ")", x.ledger(b), due[b + 1]);
            due("in an empty house", new HouseClearedUp().ledger(-1), 0);
            due("in an empty house", new HouseClearedUp().ledger(0), -2);
        });
        Bounds.sentence("44: NONE: none", () -> {
            due("in an empty house", new HouseClearedUp().richest(), -1);
            due("a purse of 0 is one", Bounds.full().richest(), 4);
            HouseClearedUp x = new HouseClearedUp();
            x.bidder(0);
            due("one of 0", x.richest(), 0);
        });
        Bounds.sentence("45: THE IMAGE is as all is now: WEEK", () -> {
            Bounds.asNow("image", LIVED, HouseClearedUp::image, 1);
            Bounds.asNow("image", FULL, HouseClearedUp::image, 31);
            due("in the last week", Bounds.atWeek(9999).image(), 9999);
        });
        Bounds.sentence("46: BACK to THE IMAGE (it stays): WEEK", () -> {
            HouseClearedUp x = Bounds.lived();
            due("the image of then", x.back(), 0);
            due("takings", x.is(1), 68);
            x.week(9);
            due("again", x.back(), 0);
            due("takings", x.is(1), 68);
            HouseClearedUp y = Bounds.atWeek(9999);
            y.image();
            due("undo", y.undo(), 29);
            due("back", y.back(), 9999);
            due("steps", y.about(4), 30);
        });
        Bounds.sentence("47: 0 LOTS .. 7 bytes of the tape. -2 for others", () -> {
            HouseClearedUp x = Bounds.lived(), y = Bounds.full();
            for (int what : new int[] {-1, -2, 8, LOW, HIGH}) due("about(" + what + ")", x.about(what), -2);
            int[] lived = {6, 3, 2, 0, 6, 3, 2, 16}, full = {12, 5, 4, 3, 30, 8, 8, 300};
            for (int what = 0; what < 8; what++) {
                due("about(" + what + ")", x.about(what), lived[what]);
                due("about(" + what + ") of a full one", y.about(what), full[what]);
            }
        });
    }
}
