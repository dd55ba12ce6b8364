import java.util.function.Supplier;

/** 'Terms' I, III, IV and V: each sentence that names a bound, at it, one below and one above. */
public final class BoundsOfTermsTest {
    private static void due(String call, long got, long want) { Bounds.due(call, got, want); }

    private static void due(String call, boolean got, boolean want) { Bounds.due(call, got, want); }

    public static void main(String[] args) {
        numbers();
        sold();
        carriedBurntBoughtBack();
        weeks();
        warming();
        steps();
        foretold();
        orders();
        bundles();
        kept();
        stairs();
        leaving();
        ashes();
        asked();
        years();
        image();
        Bounds.end();
    }

    // ---- I: the numbers

    private static void numbers() {
        Bounds.sentence("LOTS 0 .. 11 (told one by one)", () -> {
            HouseClearedUp x = new HouseClearedUp();
            for (int i = 0; i < 12; i++) {
                due("of the next one", x.of(i, 0), -2);
                due("lot", x.lot(0, i, 1), i);
                due("lots", x.about(0), i + 1);
            }
            due("a 13th", x.lot(0, 0, 1), -1);
            due("lots yet", x.about(0), 12);
            due("the last", x.of(11, 1), 11);
            due("none beyond", x.of(12, 0), -2);
        });
        Bounds.sentence("FLOOR 0 .. 5", () -> {
            for (int f = 0; f <= 5; f++) due("floor " + f, Bounds.one(f, 0).of(0, 0), f);
            Bounds.bounded("lot at a floor", Bounds::lived, (x, n) -> x.lot(n, 1, 1), 0, 5, -1);
        });
        Bounds.sentence("WORTH 0 .. 99", () -> {
            for (int w : new int[] {0, 1, 98, 99}) due("worth " + w, Bounds.one(0, w).of(0, 1), w);
            Bounds.bounded("lot of a worth", Bounds::lived, (x, n) -> x.lot(1, n, 1), 0, 99, -1);
        });
        Bounds.sentence("WEIGHT 1 .. 9", () -> {
            for (int w = 1; w <= 9; w++) {
                HouseClearedUp x = new HouseClearedUp();
                x.lot(0, 0, w);
                due("weight " + w, x.of(0, 2), w);
            }
            Bounds.bounded("lot of a weight", Bounds::lived, (x, n) -> x.lot(1, 1, n), 1, 9, -1);
        });
        Bounds.sentence("where it is: 0 in the house (at first)", () -> {
            for (int f = 0; f <= 5; f++) due("at floor " + f, Bounds.one(f, 9, 9).of(0, 3), 0);
        });
        Bounds.sentence("1 with the family, 2 burnt", () -> {
            HouseClearedUp x = Bounds.one(0, 0, 0);
            x.sell(0);
            x.buy(0, 0);
            due("bought back", x.of(0, 3), 1);
            x.burn(0);
            due("burnt", x.of(0, 3), 2);
        });
        Bounds.sentence("3 and more: with BIDDER 0 and more", () -> {
            for (int b = 0; b < 5; b++) {
                int[] wants = new int[5];
                wants[b] = 9;
                HouseClearedUp x = Bounds.one(0, 2, wants);
                x.sell(0);
                due("with bidder " + b, x.of(0, 3), 3 + b);
                due("its lots", x.ofBidder(b, 1), 1);
            }
        });
        Bounds.sentence("BIDDERS 0 .. 4 (told one by one)", () -> {
            HouseClearedUp x = new HouseClearedUp();
            for (int i = 0; i < 5; i++) {
                due("of the next one", x.ofBidder(i, 0), -2);
                due("bidder", x.bidder(i), i);
            }
            due("a 6th", x.bidder(0), -1);
            due("bidders", x.about(1), 5);
            due("none beyond", x.ofBidder(5, 0), -2);
        });
        Bounds.sentence("PURSE 0 .. 9999", () -> {
            HouseClearedUp x = new HouseClearedUp();
            int[] purses = {0, 1, 9998, 9999};
            for (int b = 0; b < 4; b++) {
                x.bidder(purses[b]);
                due("purse", x.ofBidder(b, 0), purses[b]);
            }
            Bounds.bounded("bidder", Bounds::lived, HouseClearedUp::bidder, 0, 9999, -1);
        });
        Bounds.sentence("WANT of each LOT 0 .. 99 (told; at first 0)", () -> {
            HouseClearedUp x = Bounds.one(0, 0);
            x.bidder(500);
            due("at first", x.bids(0, 0), 0);
            for (int w : new int[] {1, 98, 99, 0}) {
                due("want " + w, x.want(0, 0, w), true);
                due("bids " + w, x.bids(0, 0), w);
            }
            Bounds.bounded("want", Bounds::lived, (y, n) -> Bounds.bit(y.want(1, 1, n)), 0, 99, 0);
            HouseClearedUp all = Bounds.full();
            all.by(-1);
            all.want(4, 11, 99);
            due("the last of all", all.bids(4, 11), 99);
            due("a lot is not its neighbour", all.bids(4, 10), 0);
            due("nor a bidder", all.bids(3, 11), 0);
        });
        Bounds.sentence("TAKINGS 0 .. 99999 (at first 0)", () -> {
            HouseClearedUp x = Bounds.empty();
            due("at first", x.is(1), 0);
            // more than five full purses can't come in: here all of it does
            for (int i = 0; i < 12; i++) x.lot(0, 0, 1);
            for (int i = 0; i < 5; i++) x.bidder(9999);
            Bounds.ruledBy(x, "bids if lot=3 then 5000 else if lot=5 then 4999 else 9999 end end;"
                + "reserve if lot=11 then 5 else if lot>5 then 999 else 0 end end;");
            int[] prices = {9999, 9999, 9999, 5000, 4999, 4999, 999, 999, 999, 999, 999, 5};
            int[] winners = {0, 1, 2, 3, 4, 3, 4, 4, 4, 4, 4, 4};
            int sum = 0;
            for (int i = 0; i < 12; i++) {
                due("price", x.sell(i), prices[i]);
                due("where", x.of(i, 3), 3 + winners[i]);
                sum += prices[i];
                due("takings", x.is(1), sum);
            }
            due("all of it", sum, 5 * 9999);
            for (int b = 0; b < 5; b++) due("purse", x.ofBidder(b, 0), 0);
            due("by the book", x.ledger(-1), 5 * 9999);
        });
        Bounds.sentence("WEEK 0 .. 9999 (at first 0)", () -> {
            due("at first", Bounds.empty().is(0), 0);
            HouseClearedUp x = Bounds.atWeek(9998);
            due("one more", x.week(1), 1);
            due("the last", x.is(0), 9999);
            due("none beyond", x.week(1), -1);
            due("the last yet", x.is(0), 9999);
        });
        Bounds.sentence("the FLOOR of the sale: WEEK, 5 at most", () -> {
            HouseClearedUp x = Bounds.empty();
            for (int w = 0; w <= 8; w++) {
                due("floor in week " + w, x.is(3), Math.min(w, 5));
                x.week(1);
            }
            due("in the last week", Bounds.atWeek(9999).is(3), 5);
        });
        Bounds.sentence("X: at first 211", () -> due("is(2)", Bounds.empty().is(2), 211));
        Bounds.sentence("BOOK (the latest 30 sales)", () -> {
            // a lot leaves the house for good when it is sold: twelve sales are the most there can be
            HouseClearedUp x = Bounds.empty();
            for (int i = 0; i < 12; i++) x.lot(i / 2, 0, 1);
            x.bidder(9999);
            Bounds.ruledBy(x, "bids 9999;reserve lot+1;");
            x.week(6);
            due("how many", x.book(-1, 0), 12);
            for (int i = 0; i < 12; i++) {
                due("week", x.book(i, 0), i / 2);
                due("lot", x.book(i, 1), i);
                due("bidder", x.book(i, 2), 0);
                due("price", x.book(i, 3), i + 1);
            }
            due("none beyond", x.book(12, 0), -2);
            for (int i = 0; i < 12; i++) x.buy(i, 0);
            x.week(60);
            due("no more come", x.book(-1, 0), 12);
        });
    }

    // ---- SOLD

    /** In the house is lot 3 alone, which is with nobody, and lots 0 to 2 are with a bidder, the family and burnt. */
    private static HouseClearedUp away() {
        HouseClearedUp x = new HouseClearedUp();
        for (int i = 0; i < 4; i++) x.lot(0, 0, 1);
        x.bidder(50);
        x.bidder(40);
        for (int i = 0; i < 2; i++) x.sell(i);
        x.buy(1, 0);
        x.burn(2);
        return x;
    }

    private static void sold() {
        Bounds.sentence("SOLD: a LOT in the house", () -> {
            for (int lot = 0; lot < 3; lot++) {
                int it = lot;
                Bounds.refused("sell(" + lot + ")", BoundsOfTermsTest::away, x -> x.sell(it), -2);
            }
            due("the one in the house", away().sell(3), 0);
        });
        Bounds.sentence("SOLD: if there are BIDDERS", () -> {
            Bounds.refused("sell without", () -> Bounds.one(0, 0), x -> x.sell(0), -2);
            due("with one", Bounds.one(0, 0, 0).sell(0), 0);
        });
        Bounds.sentence("SOLD: at whatever FLOOR", () -> {
            for (int f = 0; f <= 5; f++) due("at " + f, Bounds.one(f, 0, 7, 5).sell(0), 5);
        });
        Bounds.sentence("each bids what bids says, PURSE at most", () -> {
            for (int purse = 29; purse <= 31; purse++) {
                HouseClearedUp x = new HouseClearedUp();
                x.lot(0, 0, 1);
                x.bidder(purse);
                x.bidder(500);
                x.want(0, 0, 30);
                x.want(1, 0, 40);
                due("bids of purse " + purse, x.bids(0, 0), Math.min(30, purse));
                due("price", x.sell(0), Math.min(30, purse));
            }
        });
        Bounds.sentence("the highest bid (of like ones the lowest BIDDER's)", () -> {
            int[][] wants = {{7, 7, 7}, {6, 7, 7}, {7, 6, 7}, {6, 7, 8}, {7, 8, 7}, {0, 0, 0}, {7, 7, 6}};
            int[] winner = {0, 1, 0, 2, 1, 0, 0};
            int[] price = {7, 7, 7, 7, 7, 0, 7};
            for (int i = 0; i < wants.length; i++) {
                HouseClearedUp x = Bounds.one(0, 0, wants[i]);
                due("who would win " + i, x.of(0, 6), winner[i]);
                due("sell " + i, x.sell(0), price[i]);
                due("who has it " + i, x.of(0, 3), 3 + winner[i]);
            }
        });
        Bounds.sentence("if it is reserve or more, wins", () -> {
            for (int want = 9; want <= 11; want++) {
                HouseClearedUp x = Bounds.one(0, 20, want);
                due("who would with " + want, x.of(0, 6), want < 10 ? -1 : 0);
                due("price with " + want, x.of(0, 7), want < 10 ? -1 : 10);
                due("sell with " + want, x.sell(0), want < 10 ? -1 : 10);
            }
            due("a reserve of 0 and a bid of 0", Bounds.one(0, 1, 0).sell(0), 0);
        });
        Bounds.sentence("PRICE is the highest of the other bids, or reserve, if that is more (0 others: reserve)", () -> {
            for (int other = 9; other <= 11; other++) due("other " + other, Bounds.one(0, 20, 40, other).sell(0), Math.max(10, other));
            due("the other ahead of it", Bounds.one(0, 20, 12, 40).sell(0), 12);
            due("of three the second", Bounds.one(0, 20, 12, 40, 30).sell(0), 30);
            due("of three the second", Bounds.one(0, 20, 30, 12, 40).sell(0), 30);
            due("0 others", Bounds.one(0, 20, 40).sell(0), 10);
            due("all like", Bounds.one(0, 20, 40, 40).sell(0), 40);
        });
        Bounds.sentence("PURSE less by it, TAKINGS more; it has the LOT; written down", () -> {
            HouseClearedUp x = Bounds.one(3, 20, 40, 30);
            x.week(2);
            x.sell(0);
            due("purse", x.ofBidder(0, 0), 470);
            due("the other's", x.ofBidder(1, 0), 500);
            due("takings", x.is(1), 30);
            due("its lots", x.ofBidder(0, 1), 1);
            int[] row = {2, 0, 0, 30};
            for (int what = 0; what < 4; what++) due("book(0, " + what + ")", x.book(0, what), row[what]);
            HouseClearedUp y = new HouseClearedUp();
            y.lot(0, 60, 1);
            y.bidder(30);
            y.want(0, 0, 99);
            due("all that is in a purse", y.sell(0), 30);
            due("it is empty", y.ofBidder(0, 0), 0);
        });
        Bounds.sentence("Else it is passed in: it stays", () -> {
            HouseClearedUp x = Bounds.one(0, 20, 9, 9);
            due("sell", x.sell(0), -1);
            due("where", x.of(0, 3), 0);
            due("purse", x.ofBidder(0, 0), 500);
            due("takings", x.is(1), 0);
            due("X", x.is(2), 211);
            due("not written down", x.book(-1, 0), 0);
            due("a step", x.about(4), 1);
            due("undo", x.undo(), 0);
        });
    }

    // ---- CARRIED, BURNT, BOUGHT BACK

    /** Two bidders of full purses; lot 0 is with bidder 0, lot 1 brought the takings. */
    private static HouseClearedUp soldOut(int takings, int want) {
        HouseClearedUp x = new HouseClearedUp();
        x.lot(0, 0, 1);
        x.lot(0, 0, 1);
        x.bidder(9999);
        x.bidder(9999);
        Bounds.read(x, "bids if lot=1 then " + takings + " else 0 end;");
        x.by(0);
        x.sell(0);
        x.sell(1);
        x.by(-1);
        x.want(0, 0, want);
        due("takings", x.is(1), takings);
        due("where", x.of(0, 3), 3);
        return x;
    }

    private static void carriedBurntBoughtBack() {
        Bounds.sentence("CARRIED: a LOT in the house", () -> {
            for (int lot = 0; lot < 3; lot++) {
                int it = lot;
                Bounds.refused("carry(" + lot + ")", BoundsOfTermsTest::away, x -> Bounds.bit(x.carry(it)), 0);
            }
            due("the one in the house", away().carry(3), true);
        });
        Bounds.sentence("CARRIED: at the FLOOR of the sale or below", () -> {
            for (int week = 0; week <= 4; week++) {
                for (int floor = 0; floor <= 4; floor++) {
                    int w = week, f = floor;
                    Supplier<HouseClearedUp> made = () -> {
                        HouseClearedUp x = Bounds.one(f, 0);
                        if (w > 0) x.week(w);
                        return x;
                    };
                    if (f > w) {
                        Bounds.refused("carry from " + f + " in week " + w, made, x -> Bounds.bit(x.carry(0)), 0);
                        continue;
                    }
                    HouseClearedUp x = made.get();
                    due("carry from " + f + " in week " + w, x.carry(0), true);
                    due("floor", x.of(0, 0), f + 1);
                    due("where", x.of(0, 3), 0);
                    due("steps", x.about(4), w + 1);
                }
            }
        });
        Bounds.sentence("goes to the next FLOOR (5 at most: else it can't be)", () -> {
            for (int week : new int[] {5, 6, 60}) {
                HouseClearedUp x = Bounds.one(4, 0);
                x.week(week);
                due("from 4", x.carry(0), true);
                due("floor", x.of(0, 0), 5);
                due("from 5", x.carry(0), false);
                due("floor yet", x.of(0, 0), 5);
            }
            Bounds.refused("carry from 5", () -> {
                HouseClearedUp x = Bounds.one(5, 0, 0);
                x.burn(0);
                x.undo();
                x.lot(5, 99, 1);
                x.week(7);
                return x;
            }, x -> Bounds.bit(x.carry(1)), 0);
        });
        Bounds.sentence("BURNT: a LOT in the house or with the family", () -> {
            due("in the house", away().burn(3), true);
            due("with the family", away().burn(1), true);
            Bounds.refused("with a bidder", BoundsOfTermsTest::away, x -> Bounds.bit(x.burn(0)), 0);
            Bounds.refused("burnt", BoundsOfTermsTest::away, x -> Bounds.bit(x.burn(2)), 0);
            for (int f = 0; f <= 5; f++) {
                HouseClearedUp x = Bounds.one(f, 0);
                due("at floor " + f, x.burn(0), true);
                due("where", x.of(0, 3), 2);
                due("floor", x.of(0, 0), f);
            }
            HouseClearedUp last = Bounds.one(0, 0, 0, 0, 0, 0, 9);
            last.sell(0);
            due("with the last bidder", last.of(0, 3), 7);
            due("nor with the last bidder", last.burn(0), false);
        });
        Bounds.sentence("BOUGHT BACK: a LOT of a BIDDER", () -> {
            due("with a bidder", away().buy(0, 0), true);
            for (int lot = 1; lot < 4; lot++) {
                int it = lot;
                Bounds.refused("buy(" + lot + ")", BoundsOfTermsTest::away, x -> Bounds.bit(x.buy(it, 0)), 0);
            }
        });
        Bounds.sentence("for a PRICE (0 .. 999)", () ->
            Bounds.bounded("buy for", () -> soldOut(5000, 0), (x, n) -> Bounds.bit(x.buy(0, n)), 0, 999, 0));
        Bounds.sentence("that is in TAKINGS", () -> {
            for (int takings : new int[] {0, 1, 50, 999, 1000}) {
                if (takings <= 999) due("all of " + takings, soldOut(takings, 0).buy(0, takings), true);
                if (takings < 999) Bounds.refused("one more", () -> soldOut(takings, 0), x -> Bounds.bit(x.buy(0, takings + 1)), 0);
                if (takings > 0) due("one less", soldOut(takings, 0).buy(0, takings - 1), true);
            }
        });
        Bounds.sentence("its WANT or more", () -> {
            for (int want : new int[] {1, 50, 99}) {
                due("its want", soldOut(500, want).buy(0, want), true);
                due("more", soldOut(500, want).buy(0, want + 1), true);
                Bounds.refused("less", () -> soldOut(500, want), x -> Bounds.bit(x.buy(0, want - 1)), 0);
            }
            HouseClearedUp x = soldOut(500, 0);
            x.want(1, 0, 99);
            due("another's want is nothing to it", x.buy(0, 0), true);
        });
        Bounds.sentence("TAKINGS less, PURSE more (9999 at most): it is with the family", () -> {
            for (int spent = 0; spent <= 2; spent++) {
                for (int price = 0; price <= 3; price++) {
                    HouseClearedUp x = new HouseClearedUp();
                    x.lot(0, 2 * spent, 1);
                    x.lot(0, 80, 1);
                    x.bidder(9999);
                    x.bidder(500);
                    x.want(0, 0, 9);
                    x.want(1, 1, 40);
                    x.sell(0);
                    x.sell(1);
                    x.want(0, 0, 0);
                    due("purse", x.ofBidder(0, 0), 9999 - spent);
                    due("buy", x.buy(0, price), true);
                    due("purse then", x.ofBidder(0, 0), Math.min(9999, 9999 - spent + price));
                    due("takings", x.is(1), spent + 40 - price);
                    due("where", x.of(0, 3), 1);
                    due("its lots", x.ofBidder(0, 1), 0);
                    due("the other's purse", x.ofBidder(1, 0), 460);
                }
            }
        });
    }

    // ---- A WEEK

    private static int next(int x) { return (x * 449 + 337) % 30593; }

    /** A house without lots and bidders whose X is the one that is asked for. */
    private static HouseClearedUp withX(int wanted) {
        for (int seed = 0; seed < 10000; seed++) {
            int x = seed * 2 + 211;
            for (int n = 1; n <= 40; n++) {
                x = next(x);
                if (x != wanted) continue;
                HouseClearedUp house = new HouseClearedUp();
                house.years(seed, n);
                due("is(2)", house.is(2), wanted);
                return house;
            }
        }
        due("a seed for X " + wanted, 0, 1);
        return new HouseClearedUp();
    }

    private static void weeks() {
        Bounds.sentence("A WEEK: by LOTS in the house at the FLOOR of the sale (as it is then)", () -> {
            HouseClearedUp x = new HouseClearedUp();
            for (int f = 5; f >= 0; f--) x.lot(f, 0, 1);
            x.bidder(10);
            for (int week = 0; week < 6; week++) {
                due("sold in week " + week, x.week(1), 1);
                for (int f = 0; f <= 5; f++) due("where that of floor " + f + " is", x.of(5 - f, 3), f <= week ? 3 : 0);
            }
            x.lot(4, 0, 1);
            x.lot(5, 0, 1);
            due("at 5 in all later weeks, not below", x.week(1), 1);
            due("below", x.of(6, 3), 0);
            due("at 5", x.of(7, 3), 3);
            HouseClearedUp y = away();
            due("in the house alone", y.week(1), 1);
            for (int lot = 0; lot < 4; lot++) due("where", y.of(lot, 3), new int[] {3, 1, 2, 4}[lot]);
            HouseClearedUp z = new HouseClearedUp();
            for (int f = 0; f < 3; f++) z.lot(f, 0, 1);
            z.bidder(10);
            due("floor by floor in one call", z.week(2), 2);
            due("the third is above", z.of(2, 3), 0);
        });
        Bounds.sentence("A WEEK: the LOTS one behind the other", () -> {
            HouseClearedUp x = new HouseClearedUp();
            x.lot(0, 20, 1);
            x.lot(0, 20, 1);
            x.bidder(19);
            Bounds.ruledBy(x, "warms 0;bids 99;");
            due("the purse is for the lower one", x.week(1), 1);
            due("lot 0", x.of(0, 3), 3);
            due("lot 1", x.of(1, 3), 0);
        });
        Bounds.sentence("first, if there are BIDDERS, a draw", () -> {
            HouseClearedUp x = Bounds.one(0, 99);
            x.week(1);
            due("no draw without", x.is(2), 211);
            HouseClearedUp y = new HouseClearedUp();
            y.bidder(9);
            y.week(1);
            due("nor without lots", y.is(2), 211);
            for (int lots = 1; lots <= 3; lots++) {
                HouseClearedUp z = new HouseClearedUp();
                z.lot(1, 99, 1);
                z.lot(0, 99, 1);
                z.burn(1);
                for (int i = 0; i < lots; i++) z.lot(0, 99, 1);
                z.bidder(9);
                z.week(1);
                int due = 211;
                for (int i = 0; i < lots; i++) due = next(due);
                due("one each", z.is(2), due);
            }
        });
        Bounds.sentence("X being (X * 449 + 337) mod 30593 then", () -> {
            for (int start : new int[] {0, 1, 67, 68, 30591, 30592}) {
                HouseClearedUp x = withX(start);
                x.lot(x.is(3), 99, 1);
                x.bidder(9);
                x.week(1);
                due("X behind " + start, x.is(2), next(start));
            }
        });
        Bounds.sentence("WEEK is one more (at 9999 none can pass)", () -> {
            HouseClearedUp x = Bounds.atWeek(9997);
            due("two can", x.week(2), 1);
            due("is(0)", x.is(0), 9999);
            Bounds.refused("week(1) at 9999", () -> Bounds.atWeek(9999), y -> y.week(1), -1);
            Bounds.refused("week(2) at 9998", () -> Bounds.atWeek(9998), y -> y.week(2), -1);
            due("week(1) at 9998", Bounds.atWeek(9998).week(1), 1);
            due("week(60) at 9939", Bounds.atWeek(9939).week(60), 1);
            Bounds.refused("week(60) at 9940", () -> Bounds.atWeek(9940), y -> y.week(60), -1);
        });
    }

    /** An X that ends so: its draw is that digit. */
    private static int endingIn(int digit) { return 500 + digit; }

    private static void warming() {
        Bounds.sentence("a draw by 10: the BIDDER of that number mod how many there are, if draw is below warms", () -> {
            for (int draw = 0; draw < 10; draw++) {
                for (int warms = 0; warms <= 10; warms++) {
                    for (int many = 1; many <= 5; many++) {
                        HouseClearedUp x = withX(endingIn(draw));
                        x.lot(x.is(3), 99, 1);
                        for (int b = 0; b < many; b++) x.bidder(500);
                        Bounds.ruledBy(x, "reserve 999;warms " + warms + ";");
                        x.week(1);
                        for (int b = 0; b < many; b++) {
                            boolean warmed = draw < warms && draw % many == b;
                            due("draw " + draw + ", warms " + warms + ", bidder " + b + " of " + many, x.bids(b, 0), warmed ? 5 : 0);
                        }
                    }
                }
            }
        });
        Bounds.sentence("warms without a law: 3", () -> {
            for (int draw = 1; draw <= 4; draw++) {
                HouseClearedUp x = withX(endingIn(draw));
                x.lot(x.is(3), 99, 1);
                x.bidder(500);
                x.week(1);
                due("draw " + draw, x.bids(0, 0), draw < 3 ? 5 : 0);
            }
        });
        Bounds.sentence("its WANT of this LOT is more by 5 (99 at most)", () -> {
            for (int want : new int[] {0, 1, 92, 93, 94, 95, 96, 98, 99}) {
                HouseClearedUp x = Bounds.one(0, 99, want);
                x.lot(1, 99, 1);
                Bounds.ruledBy(x, "reserve 999;warms 10;");
                x.week(1);
                due("from " + want, x.bids(0, 0), Math.min(99, want + 5));
                due("not of another", x.bids(0, 1), 0);
            }
        });
        Bounds.sentence("then it is SOLD", () -> {
            // draw 1 of 211 is below 3: bidder 0 of one
            for (int want = 43; want <= 46; want++) {
                HouseClearedUp x = Bounds.one(0, 98, want);
                due("by the warmed want, from " + want, x.week(1), want + 5 >= 49 ? 1 : 0);
            }
        });
    }

    // ---- STEPS

    private static void steps() {
        Bounds.sentence("STEPS: SOLD (passed in, too), CARRIED, BURNT, BOUGHT BACK, a WEEK (each), YEARS", () -> {
            Supplier<HouseClearedUp> made = () -> {
                HouseClearedUp x = Bounds.one(0, 20, 30, 20);
                x.lot(0, 98, 1);
                x.lot(0, 0, 1);
                x.sell(2);
                return x;
            };
            Bounds.Call[] calls = {
                x -> x.sell(0), x -> x.sell(1), x -> Bounds.bit(x.carry(0)), x -> Bounds.bit(x.burn(0)),
                x -> Bounds.bit(x.buy(2, 0)), x -> x.week(1), x -> x.years(5, 40), x -> x.years(0, 1), x -> x.week(7), x -> x.week(29)};
            int[] steps = {1, 1, 1, 1, 1, 1, 1, 1, 7, 29};
            for (int i = 0; i < calls.length; i++) {
                int it = i;
                HouseClearedUp x = made.get();
                calls[i].on(x);
                due("steps of call " + i, x.about(4), 1 + steps[i]);
                Bounds.refused("taken back, call " + i, made, y -> {
                    calls[it].on(y);
                    for (int k = 0; k < steps[it]; k++) y.undo();
                    return y.about(4);
                }, 1);
            }
        });
        Bounds.sentence("the latest 30 can be taken back, the latest first", () -> {
            for (int many = 28; many <= 33; many++) {
                HouseClearedUp x = Bounds.empty();
                for (int i = 0; i < many; i++) {
                    x.week(1);
                    due("steps", x.about(4), Math.min(30, i + 1));
                }
                int can = Math.min(30, many);
                for (int i = 1; i <= can; i++) {
                    due("undo", x.undo(), can - i);
                    due("week", x.is(0), many - i);
                }
                due("no more", x.undo(), -1);
                due("week yet", x.is(0), many - can);
            }
        });
        Bounds.sentence("the latest 30: round and round", () -> {
            HouseClearedUp x = Bounds.empty();
            x.week(47);
            for (int i = 0; i < 17; i++) x.undo();
            due("week", x.is(0), 30);
            due("steps", x.about(4), 13);
            x.week(16);
            due("steps", x.about(4), 29);
            x.week(1);
            due("steps", x.about(4), 30);
            x.week(1);
            due("steps", x.about(4), 30);
            for (int i = 1; i <= 30; i++) {
                due("undo", x.undo(), 30 - i);
                due("week", x.is(0), 48 - i);
            }
            due("no more", x.undo(), -1);
        });
        Bounds.sentence("what was told since is as told", () -> {
            HouseClearedUp x = Bounds.one(0, 20, 30, 20);
            x.sell(0);
            x.lot(0, 40, 2);
            x.lot(4, 40, 2);
            x.bidder(70);
            x.want(2, 1, 60);
            x.want(0, 0, 11);
            Bounds.ruledBy(x, "warms 10;");
            x.week(1);
            x.carry(1);
            due("lot 1 was sold", x.of(1, 3), 5);
            due("undo", x.undo(), 1);
            due("lot 1", x.of(1, 3), 0);
            due("undo", x.undo(), 0);
            due("lot 0", x.of(0, 3), 0);
            due("lots", x.about(0), 3);
            due("floor", x.of(1, 0), 0);
            due("floor", x.of(2, 0), 4);
            due("purse", x.ofBidder(2, 0), 70);
            due("purse as ahead", x.ofBidder(0, 0), 500);
            due("want of the new", x.bids(2, 1), 60);
            due("want told anew", x.bids(0, 0), 11);
            due("want as ahead", x.bids(1, 0), 20);
            due("text", x.about(3), 0);
            // told behind all 30, and taken back behind all
            HouseClearedUp y = new HouseClearedUp();
            y.week(35);
            y.lot(3, 5, 1);
            y.bidder(66);
            y.want(0, 0, 33);
            for (int i = 29; i >= 0; i--) {
                due("undo", y.undo(), i);
                due("floor", y.of(0, 0), 3);
                due("purse", y.ofBidder(0, 0), 66);
                due("want", y.bids(0, 0), 33);
            }
        });
        Bounds.sentence("STAIRS stay", () -> {
            HouseClearedUp x = Bounds.one(0, 0);
            x.burn(0);
            x.stair(0, 5);
            x.gone(2, 3);
            x.undo();
            due("the new one", x.climb(0, 5), 1);
            due("the one that is gone", x.climb(2, 3), 5);
        });
    }

    // ---- III

    private static void foretold() {
        Bounds.sentence("FORETOLD behind n WEEKS (1 .. 60)", () -> {
            for (int what = 0; what < 3; what++) {
                int it = what;
                Bounds.bounded("foretold " + what, Bounds::lived, (x, n) -> x.foretold(n, it, 0), 1, 60, -2);
            }
            for (int n = 1; n <= 7; n++) {
                HouseClearedUp told = Bounds.lived(), gone = Bounds.lived();
                int takings = told.foretold(n, 0, 0), sold = told.foretold(n, 2, 0);
                due("sold in " + n, sold, gone.week(n));
                due("takings behind " + n, takings, gone.is(1));
                for (int lot = 0; lot < 6; lot++) due("where", told.foretold(n, 1, lot), gone.of(lot, 3));
            }
        });
        Bounds.sentence("FORETOLD: those that can pass", () -> {
            HouseClearedUp x = Bounds.atWeek(9940);
            Bounds.ruledBy(x, "reserve if week=9998 then 0 else 999 end;");
            due("not in 58", x.foretold(58, 2, 0), 0);
            due("in 59", x.foretold(59, 2, 0), 1);
            due("in 60", x.foretold(60, 2, 0), 1);
            HouseClearedUp y = Bounds.atWeek(9999);
            due("none can", y.foretold(1, 2, 0), 0);
            due("nor of 60", y.foretold(60, 1, 0), 0);
            due("takings", y.foretold(60, 0, 0), 0);
            due("one can", Bounds.atWeek(9998).foretold(60, 2, 0), 1);
            due("week yet", y.is(0), 9999);
        });
        Bounds.sentence("All that follows changes nothing", () -> {
            Bounds.Call[] asked = {
                x -> x.foretold(60, 0, 0), x -> x.order(24, -1), x -> x.order(56, 1), x -> x.winners(false), x -> x.winners(true), x -> x.pays(0),
                x -> x.kept(1, true), x -> x.kept(2, false), x -> x.climb(0, 5), x -> x.cut(0, 3), x -> x.bridges(), x -> x.leave(6, false),
                x -> x.takes(3, 2), x -> x.ash(9, 2), x -> x.burnt(9, 2, true), x -> x.burnt(9, 2, false), x -> x.whose(), x -> x.dearest(),
                x -> x.left(2), x -> x.richest(), x -> x.ledger(-1), x -> x.ledger(2), x -> x.of(3, 6), x -> x.of(4, 7), x -> x.ofBidder(2, 2),
                x -> x.bids(0, 3), x -> x.is(4), x -> x.book(0, 3), x -> x.about(4), x -> x.fault(0)};
            for (int i = 0; i < asked.length; i++) {
                Bounds.asksOnly("question " + i, Bounds::lived, asked[i]);
                Bounds.asksOnly("question " + i, Bounds::full, asked[i]);
            }
        });
    }

    /** As many lots as there may be, in the house all of them, and two bidders. */
    private static HouseClearedUp twelve() {
        HouseClearedUp x = new HouseClearedUp();
        for (int i = 0; i < 12; i++) x.lot(i % 6, 0, 1 + i % 9);
        x.bidder(300);
        x.bidder(300);
        for (int i = 0; i < 12; i++) {
            x.want(0, i, 10 + i);
            x.want(1, i, 30 - i);
        }
        return x;
    }

    private static void orders() {
        Bounds.sentence("ORDER: of 1 to 5 LOTS", () -> {
            HouseClearedUp x = twelve();
            due("of 0", x.order(0, -1), -2);
            due("of 1", x.order(1, -1), 10);
            due("of the last", x.order(1 << 11, -1), 19);
            due("of 5", x.order(31, -1), 10 + 11 + 12 + 13 + 14);
            due("of the last 5", x.order(31 << 7, -1), 17 + 18 + 19 + 20 + 19);
            due("of 6", x.order(63, -1), -2);
            due("of 12", x.order(4095, -1), -2);
            due("of 6 with the last", x.order(31 | 1 << 11, 0), -2);
        });
        Bounds.sentence("ORDER: LOTS in the house", () -> {
            HouseClearedUp x = away();
            for (int lot = 0; lot < 3; lot++) {
                due("lot " + lot, x.order(1 << lot, -1), -2);
                due("lot " + lot + " beside one in the house", x.order(8 | 1 << lot, -1), -2);
            }
            due("lot 3", x.order(8, -1), 0);
            due("one that isn't told", x.order(16, -1), -2);
            due("beside one that is", x.order(24, -1), -2);
            for (int set : new int[] {-1, Bounds.LOW, Bounds.LOW + 8, Bounds.HIGH, 1 << 12, 1 << 12 | 8, 1 << 30}) due("order(" + set + ")", x.order(set, -1), -2);
        });
        Bounds.sentence("of like ones the lowest first LOT, then the next, ..", () -> {
            HouseClearedUp x = new HouseClearedUp();
            for (int i = 0; i < 5; i++) x.lot(0, 0, 1);
            x.bidder(9);
            for (int i = 0; i < 5; i++) due("all like: the " + i + "th", x.order(31, i), i);
            for (int i = 0; i < 3; i++) due("of 4, 2, 1: the " + i + "th", x.order(22, i), new int[] {1, 2, 4}[i]);
        });
        Bounds.sentence("the order by which PRICES together are most", () -> {
            // bidder 0 bids less by what it has, bidder 1 the same always; lot 2 has a reserve that is bid for first alone
            String[] laws = {"bids if who=0 then 40-has*lot*9 else 30-has*lot*5 end;", "bids if who=0 then 40-has*(3-lot)*9 else 20 end;reserve if lot=2 then 35 else 0 end;",
                "bids if who=1 then 10-has*(lot+1) else 8 end;", "bids want-has*7;", "reserve 25;"};
            for (String law : laws) {
                HouseClearedUp x = new HouseClearedUp();
                int[][] wants = {{50, 20, 45}, {35, 22, 40}};
                for (int lot = 0; lot < 3; lot++) x.lot(0, 0, 1);
                for (int b = 0; b < 2; b++) x.bidder(b == 0 ? 60 : 45);
                for (int b = 0; b < 2; b++) for (int lot = 0; lot < 3; lot++) x.want(b, lot, wants[b][lot]);
                Bounds.ruledBy(x, law);
                int best = -1;
                int[] first = {};
                for (int[] o : new int[][] {{0, 1, 2}, {0, 2, 1}, {1, 0, 2}, {1, 2, 0}, {2, 0, 1}, {2, 1, 0}}) {
                    int sum = 0;
                    for (int lot : o) sum += Math.max(0, x.sell(lot));
                    for (int k = 0; k < 3; k++) x.undo();
                    if (sum > best) {
                        best = sum;
                        first = o;
                    }
                }
                due("together by " + law, x.order(7, -1), best);
                for (int k = 0; k < 3; k++) due("the " + k + "th by " + law, x.order(7, k), first[k]);
            }
        });
        Bounds.sentence("ORDER: PRICES together, the i-th", () -> {
            HouseClearedUp x = twelve();
            for (int many = 1; many <= 5; many++) {
                int set = (1 << many) - 1;
                due("the -2nd", x.order(set, -2), -2);
                due("the last", x.order(set, many - 1), many - 1);
                due("one beyond", x.order(set, many), -2);
                due("far beyond", x.order(set, Bounds.HIGH), -2);
                due("far below", x.order(set, Bounds.LOW), -2);
            }
            due("what is passed in brings nothing", Bounds.one(0, 20, 9).order(1, -1), 0);
            HouseClearedUp some = new HouseClearedUp();
            for (int lot = 0; lot < 5; lot++) some.lot(0, lot % 2 == 0 ? 20 : 0, 1);
            some.bidder(50);
            some.bidder(50);
            for (int lot = 0; lot < 5; lot++) for (int b = 0; b < 2; b++) some.want(b, lot, 9);
            due("those that aren't", some.order(31, -1), 18);
            for (int lot = 0; lot < 5; lot++) due("all have a place in it", some.order(31, lot), lot);
            due("nor without bidders", Bounds.one(0, 0).order(1, -1), 0);
        });
    }

    private static void bundles() {
        Bounds.sentence("BUNDLES (8 at most; told: a BIDDER, some LOTS, a price 0 .. 9999)", () -> {
            HouseClearedUp x = twelve();
            for (int i = 1; i <= 8; i++) due("the " + i + "th", x.bundle(i % 2, 1 << i, i), i);
            due("a 9th", x.bundle(0, 1, 1), -2);
            due("how many", x.about(5), 8);
            Bounds.refused("a 9th", Bounds::full, y -> y.bundle(0, 1, 9999), -2);
            Bounds.bounded("a price", Bounds::lived, (y, n) -> y.bundle(0, 8, n), 0, 9999, -2);
            Bounds.bounded("lots", Bounds::lived, (y, n) -> y.bundle(0, n, 5), 1, 63, -2);
            Bounds.bounded("lots of twelve", BoundsOfTermsTest::twelve, (y, n) -> y.bundle(0, n, 5), 1, 4095, -2);
            Bounds.refused("bidder -2", Bounds::lived, y -> y.bundle(-2, 1, 5), -2);
            Bounds.refused("bidder 3", Bounds::lived, y -> y.bundle(3, 1, 5), -2);
        });
        Bounds.sentence("a set of these in which no LOT is twice", () -> {
            HouseClearedUp x = twelve();
            x.bundle(0, 3, 10);
            x.bundle(1, 6, 12);
            due("they share one", x.winners(false), 2);
            x.bundle(1, 4, 11);
            due("these share none", x.winners(false), 5);
            due("together", x.winners(true), 21);
            HouseClearedUp last = twelve();
            last.bundle(0, 1 << 11, 10);
            last.bundle(1, 1 << 11, 10);
            due("the last lot", last.winners(false), 1);
        });
        Bounds.sentence("and no BIDDER", () -> {
            HouseClearedUp x = twelve();
            x.bundle(0, 1, 10);
            x.bundle(0, 2, 12);
            due("one bidder's", x.winners(false), 2);
            due("together", x.winners(true), 12);
            x.bundle(1, 4, 1);
            due("another's", x.winners(false), 6);
            for (int b = 0; b < 5; b++) {
                HouseClearedUp y = Bounds.full();
                y.bundle(-1, 0, 0);
                y.bundle(b, 1, 10);
                y.bundle(b, 2, 11);
                due("bidder " + b + " is not twice", y.winners(false), 2);
            }
            HouseClearedUp all = Bounds.full();
            all.bundle(-1, 0, 0);
            for (int b = 0; b < 5; b++) all.bundle(b, 1 << b, 9999);
            due("one of each", all.winners(false), 31);
            due("together", all.winners(true), 5 * 9999);
        });
        Bounds.sentence("of most PRICES together; of like ones the lowest set", () -> {
            HouseClearedUp x = twelve();
            due("without any", x.winners(false), 0);
            due("without any", x.winners(true), 0);
            x.bundle(0, 1, 0);
            due("one of 0 adds nothing", x.winners(false), 0);
            x.bundle(1, 1, 1);
            due("one of 1 does", x.winners(false), 2);
            x.bundle(0, 1, 1);
            due("like ones", x.winners(false), 2);
            x.bundle(0, 1, 2);
            due("more", x.winners(false), 8);
            HouseClearedUp y = twelve();
            for (int i = 0; i < 8; i++) y.bundle(0, 1, i == 7 ? 5 : 4);
            due("the last of eight", y.winners(false), 128);
        });
        Bounds.sentence("WHAT ONE PAYS: most PRICES of BUNDLES without its own ones, less PRICES of the others' among the WINNERS", () -> {
            HouseClearedUp x = Bounds.full();
            x.bundle(-1, 0, 0);
            due("without any", x.pays(0), 0);
            x.bundle(0, 1, 10);
            due("alone for it", x.pays(0), 0);
            x.bundle(1, 1, 9);
            due("the next one's", x.pays(0), 9);
            due("one that wins nothing", x.pays(1), 0);
            x.bundle(1, 1, 10);
            due("like ones", x.pays(0), 10);
            x.bundle(4, 2, 7);
            due("another's is no matter", x.pays(0), 10);
            due("its own", x.pays(4), 0);
            x.bundle(4, 3, 16);
            due("of its own ones none counts", x.pays(4), 0);
            due("by the other's bundle of both", x.pays(0), 17 - 7);
        });
    }

    private static void kept() {
        Bounds.sentence("KEPT: k (1 .. 12) LOTS each WEEK at most", () -> {
            Bounds.bounded("kept", Bounds::lived, (x, n) -> x.kept(n, false), 1, 12, -1);
            Bounds.bounded("kept worth", Bounds::lived, (x, n) -> x.kept(n, true), 1, 12, -1);
            for (int k = 1; k <= 12; k++) {
                HouseClearedUp x = new HouseClearedUp();
                for (int i = 0; i < 12; i++) x.lot(0, 7, 1);
                due("of twelve by " + k, x.kept(k, false), (1 << k) - 1);
                due("worth", x.kept(k, true), 7 * k);
            }
        });
        Bounds.sentence("(no more than f: else it can't be), in one of the next f - g + 1 WEEKS, this one being the first", () -> {
            for (int g = 0; g <= 7; g++) {
                for (int f = 0; f <= 5; f++) {
                    HouseClearedUp x = new HouseClearedUp();
                    for (int i = 0; i < 12; i++) x.lot(f, 10, 1);
                    if (g > 0) x.week(g);
                    int weeks = Math.max(0, f - Math.min(5, g) + 1);
                    for (int k = 1; k <= 4; k++) {
                        int many = Math.min(12, k * weeks);
                        due("at " + f + ", the sale at " + g + ", by " + k, x.kept(k, false), (1 << many) - 1);
                        due("worth", x.kept(k, true), 10 * many);
                    }
                }
            }
        });
        Bounds.sentence("the most WORTH together", () -> {
            HouseClearedUp x = new HouseClearedUp();
            x.lot(0, 50, 1);
            x.lot(1, 60, 1);
            x.lot(1, 49, 1);
            due("the early one in its week", x.kept(1, false), 3);
            x.lot(1, 51, 1);
            due("two later ones are more", x.kept(1, false), 10);
            x.lot(2, 1, 1);
            due("and the third week", x.kept(1, true), 112);
        });
        Bounds.sentence("KEPT: of like ones the fewest LOTS, then the lowest set", () -> {
            HouseClearedUp x = new HouseClearedUp();
            x.lot(0, 0, 1);
            due("one without worth", x.kept(12, false), 0);
            x.lot(0, 1, 1);
            due("one of worth 1", x.kept(12, false), 2);
            x.lot(0, 1, 1);
            due("like ones", x.kept(1, false), 2);
            x.lot(5, 1, 1);
            due("and a later one", x.kept(1, false), 10);
            HouseClearedUp y = new HouseClearedUp();
            y.lot(1, 5, 1);
            y.lot(0, 5, 1);
            y.lot(1, 5, 1);
            due("the lowest two of three", y.kept(1, false), 3);
        });
        Bounds.sentence("KEPT: a LOT in the house", () -> {
            HouseClearedUp x = new HouseClearedUp();
            for (int i = 0; i < 4; i++) x.lot(0, 10, 1);
            x.bidder(100);
            x.want(0, 0, 5);
            x.want(0, 1, 5);
            x.sell(0);
            x.sell(1);
            x.buy(1, 5);
            x.burn(2);
            due("the one that is left", x.kept(12, false), 8);
        });
    }

    // ---- IV

    private static HouseClearedUp allStairs() {
        HouseClearedUp x = new HouseClearedUp();
        for (int a = 0; a < 6; a++) for (int b = 0; b < a; b++) x.stair(a, b);
        return x;
    }

    private static HouseClearedUp noStairs() {
        HouseClearedUp x = new HouseClearedUp();
        for (int a = 0; a < 5; a++) x.gone(a, a + 1);
        return x;
    }

    private static void stairs() {
        Bounds.sentence("STAIRS (at first of those one above the other: 0 and 1, 1 and 2, .. 4 and 5)", () -> {
            for (int a = 0; a < 6; a++) {
                for (int b = 0; b < 6; b++) {
                    boolean beside = Math.abs(a - b) == 1;
                    due("gone(" + a + ", " + b + ")", Bounds.empty().gone(a, b), beside);
                    due("stair(" + a + ", " + b + ")", Bounds.empty().stair(a, b), a != b && !beside);
                }
            }
        });
        Bounds.sentence("STAIRS of two unlike FLOORS", () -> {
            for (int f = 0; f < 6; f++) {
                int it = f;
                Bounds.refused("stair of like ones", Bounds::lived, x -> Bounds.bit(x.stair(it, it)), 0);
                Bounds.refused("gone of like ones", Bounds::lived, x -> Bounds.bit(x.gone(it, it)), 0);
            }
        });
        Bounds.sentence("CLIMB: the fewest STAIRS from one FLOOR to another one (0: itself); none", () -> {
            HouseClearedUp x = Bounds.empty(), all = allStairs(), no = noStairs();
            for (int a = 0; a < 6; a++) {
                for (int b = 0; b < 6; b++) {
                    due("climb(" + a + ", " + b + ")", x.climb(a, b), Math.abs(a - b));
                    due("with all stairs", all.climb(a, b), a == b ? 0 : 1);
                    due("without any", no.climb(a, b), a == b ? 0 : -1);
                }
            }
            x.stair(0, 5);
            due("the other way round", x.climb(0, 3), 3);
            due("the other way round", x.climb(0, 4), 2);
        });
        Bounds.sentence("CUT: the fewest STAIRS that must go (0: none does)", () -> {
            HouseClearedUp x = Bounds.empty(), all = allStairs(), no = noStairs();
            for (int a = 0; a < 6; a++) {
                for (int b = 0; b < 6; b++) {
                    due("cut(" + a + ", " + b + ")", x.cut(a, b), a == b ? -1 : 1);
                    due("with all stairs", all.cut(a, b), a == b ? -1 : 5);
                    due("without any", no.cut(a, b), a == b ? -1 : 0);
                }
            }
            x.stair(0, 5);
            due("a ring", x.cut(0, 3), 2);
            x.gone(2, 3);
            x.gone(0, 5);
            due("two parts", x.cut(0, 5), 0);
            due("in one of them", x.cut(0, 2), 1);
        });
        Bounds.sentence("BRIDGES: how many STAIRS there are without which FLOORS hang together less", () -> {
            due("at first", Bounds.empty().bridges(), 5);
            due("all stairs", allStairs().bridges(), 0);
            due("none", noStairs().bridges(), 0);
            HouseClearedUp x = noStairs();
            x.stair(2, 5);
            due("one", x.bridges(), 1);
            x.stair(2, 0);
            x.stair(0, 5);
            due("a ring", x.bridges(), 0);
            x.stair(4, 5);
            due("a ring and one more", x.bridges(), 1);
            x.stair(1, 3);
            due("and one apart", x.bridges(), 2);
        });
    }

    private static HouseClearedUp withOdds(int... odds) {
        HouseClearedUp x = new HouseClearedUp();
        for (int level = 0; level < 6; level++) due("odds", x.odds(level, odds[level]), true);
        return x;
    }

    private static void leaving() {
        Bounds.sentence("offers by levels 0 .. 5 (each worth ten times its level)", () -> {
            for (int level = 0; level <= 5; level++) {
                int[] odds = new int[6];
                odds[level] = 10;
                HouseClearedUp x = withOdds(odds);
                for (int n = 0; n <= 6; n++) {
                    due("always level " + level, x.leave(n, false), n == 0 ? 0 : 10 * level);
                    due("below it", x.leave(n, true), 1);
                }
            }
            Bounds.bounded("odds of a level", Bounds::lived, (x, n) -> Bounds.bit(x.odds(n, 5)), 0, 5, 0);
        });
        Bounds.sentence("by ODDS (told, of 10 together; at first 10 for level 0)", () -> {
            HouseClearedUp x = Bounds.empty();
            due("at first", x.leave(6, false), 0);
            due("at first", x.leave(6, true), 1);
            due("at first level 0 is as much", x.takes(6, 0), 1);
            x.odds(3, 1);
            due("11 together", x.leave(1, false), -1);
            due("11 together", x.takes(1, 5), -1);
            x.odds(0, 9);
            due("10 together", x.leave(1, false), 3);
            x.odds(0, 8);
            due("9 together", x.leave(1, false), -1);
            due("9 together", x.leave(0, true), -1);
            due("9 together", x.takes(0, 0), -1);
            x.odds(3, 0);
            x.odds(0, 0);
            due("0 together", x.leave(1, true), -1);
            Bounds.bounded("odds", Bounds::lived, (y, n) -> Bounds.bit(y.odds(1, n)), 0, 10, 0);
        });
        Bounds.sentence("n (0 .. 6) WEEKS being left, (none any more: 0): the most on the mean, in lowest terms", () -> {
            Bounds.bounded("leave", Bounds::lived, (x, n) -> x.leave(n, false), 0, 6, -1);
            Bounds.bounded("leave below", Bounds::lived, (x, n) -> x.leave(n, true), 0, 6, -1);
            HouseClearedUp x = withOdds(9, 0, 0, 0, 0, 1);
            // 50 * (1 - 0.9 ^ n)
            long[] upper = {0, 5, 19, 271, 3439, 40951, 468559};
            long[] lower = {1, 1, 2, 20, 200, 2000, 20000};
            for (int n = 0; n <= 6; n++) {
                due("upper of " + n, x.leave(n, false), upper[n]);
                due("lower of " + n, x.leave(n, true), lower[n]);
            }
            HouseClearedUp y = withOdds(1, 3, 1, 2, 1, 2);
            long mean = 0, unit = 1;
            for (int n = 1; n <= 6; n++) {
                long sum = 0;
                int[] odds = {1, 3, 1, 2, 1, 2};
                for (int level = 0; level < 6; level++) sum += odds[level] * Math.max(10 * level * unit, mean);
                mean = sum;
                unit *= 10;
                java.math.BigInteger by = java.math.BigInteger.valueOf(mean).gcd(java.math.BigInteger.valueOf(unit));
                due("upper of " + n, y.leave(n, false), mean / by.longValue());
                due("lower of " + n, y.leave(n, true), unit / by.longValue());
            }
        });
        Bounds.sentence("An offer is taken, n WEEKS being left behind it, if it is as much as that mean or more", () -> {
            Bounds.bounded("takes", Bounds::lived, (x, n) -> x.takes(n, 3), 0, 6, -1);
            Bounds.bounded("takes of a level", Bounds::lived, (x, n) -> x.takes(3, n), 0, 5, -1);
            // the mean of one week: 20, just above 20, just below 20
            int[][] odds = {{0, 5, 0, 5, 0, 0}, {0, 4, 1, 5, 0, 0}, {0, 5, 1, 4, 0, 0}};
            int[] taken = {1, 0, 1};
            for (int i = 0; i < 3; i++) {
                HouseClearedUp x = withOdds(odds[i]);
                due("level 2 of mean " + i, x.takes(1, 2), taken[i]);
                due("level 1", x.takes(1, 1), 0);
                due("level 3", x.takes(1, 3), 1);
                for (int level = 0; level < 6; level++) due("none left: all", x.takes(0, level), 1);
            }
        });
    }

    private static void ashes() {
        Bounds.sentence("ASH of a weight (0 .. 108), of so many LOTS (0 .. 12)", () -> {
            Bounds.bounded("ash of a weight", Bounds::lived, (x, n) -> x.ash(n, 2), 0, 108, -1);
            Bounds.bounded("ash of so many", Bounds::lived, (x, n) -> x.ash(9, n), 0, 12, -1);
            Bounds.bounded("burnt of a weight", Bounds::lived, (x, n) -> x.burnt(n, 2, true), 0, 108, -1);
            Bounds.bounded("burnt of so many", Bounds::lived, (x, n) -> x.burnt(9, n, false), 0, 12, -1);
            HouseClearedUp x = new HouseClearedUp();
            for (int i = 0; i < 12; i++) x.lot(0, 0, 9);
            due("the most", x.ash(108, 12), 1);
            due("all of them", x.burnt(108, 12, true), 4095);
            due("none of them not", x.burnt(108, 12, false), 0);
            due("one unit less", x.ash(107, 12), 0);
            due("one lot less", x.ash(108, 11), 0);
            due("so of 11", x.ash(99, 11), 12);
        });
        Bounds.sentence("sets of LOTS that aren't with BIDDERS nor the family", () -> {
            // of weight 1 each: 0 with a bidder, 1 with the family, 2 burnt, 3 in the house
            HouseClearedUp x = away();
            due("of 0", x.ash(0, 0), 1);
            due("of 1", x.ash(1, 1), 2);
            due("of 2", x.ash(2, 2), 1);
            due("of 3", x.ash(3, 3), 0);
            due("in all", x.burnt(2, 2, true), 12);
            due("in none of those that could be", x.burnt(0, 0, false), 12);
            x.sell(3);
            due("as now: of 1", x.ash(1, 1), 1);
            due("as now: in none of those that could be", x.burnt(0, 0, false), 4);
            x.undo();
            due("as now: in none of those that could be", x.burnt(0, 0, false), 12);
        });
        Bounds.sentence("just so many, WEIGHTS together just that", () -> {
            HouseClearedUp x = new HouseClearedUp();
            for (int w : new int[] {1, 2, 3, 4}) x.lot(0, 0, w);
            due("5 of 2", x.ash(5, 2), 2);
            due("5 of 1", x.ash(5, 1), 0);
            due("5 of 3", x.ash(5, 3), 0);
            due("6 of 3", x.ash(6, 3), 1);
            due("10 of 4", x.ash(10, 4), 1);
            due("11 of 4", x.ash(11, 4), 0);
            due("9 of 4", x.ash(9, 4), 0);
            due("0 of 1", x.ash(0, 1), 0);
            due("1 of 0", x.ash(1, 0), 0);
        });
        Bounds.sentence("which LOTS are in all of these, in none of these (of those that could be; without any set: 0 each)", () -> {
            HouseClearedUp x = new HouseClearedUp();
            for (int w : new int[] {1, 2, 3, 4, 9}) x.lot(0, 0, w);
            due("6 of 2: 2 and 4", x.burnt(6, 2, true), 10);
            due("6 of 2: none", x.burnt(6, 2, false), 21);
            due("5 of 2: in all", x.burnt(5, 2, true), 0);
            due("5 of 2: in none", x.burnt(5, 2, false), 16);
            due("8 of 3: 1, 3, 4", x.burnt(8, 3, true), 13);
            due("no set: all", x.burnt(20, 1, true), 0);
            due("no set: none", x.burnt(20, 1, false), 0);
            due("the empty set: all", x.burnt(0, 0, true), 0);
            due("the empty set: none", x.burnt(0, 0, false), 31);
            due("without lots", Bounds.empty().burnt(0, 0, false), 0);
            due("without lots", Bounds.empty().burnt(0, 0, true), 0);
        });
    }

    private static void asked() {
        Bounds.sentence("SAID, 8 at most: a LOT, warms 0 .. 10", () -> {
            HouseClearedUp x = twelve();
            for (int i = 1; i <= 8; i++) due("the " + i + "th", x.said(11, 5), i);
            due("a 9th", x.said(0, 5), -2);
            due("how many", x.about(6), 8);
            Bounds.refused("a 9th", Bounds::full, y -> y.said(0, 9), -2);
            Bounds.bounded("warms", Bounds::lived, (y, n) -> y.said(1, n), 0, 10, -2);
            Bounds.refused("lot -2", Bounds::lived, y -> y.said(-2, 5), -2);
            Bounds.refused("lot 6", Bounds::lived, y -> y.said(6, 5), -2);
            due("lot 5", Bounds.lived().said(5, 5), 3);
        });
        Bounds.sentence("TEXTS (bits) by whose warms all are so (as now)", () -> {
            HouseClearedUp x = twelve();
            due("no texts", x.whose(), 0);
            for (String s : new String[] {"warms 0-1;", "warms 11;", "reserve 5;", "warms lot;"}) Bounds.read(x, s);
            due("nothing said: all", x.whose(), 15);
            int[][] saids = {{0, 0, 1 | 8}, {0, 10, 2}, {3, 3, 4 | 8}, {9, 9, 8}, {10, 10, 2 | 8}, {11, 10, 2 | 8}, {1, 0, 1}, {5, 6, 0}};
            for (int[] s : saids) {
                x.said(-1, 0);
                x.said(s[0], s[1]);
                due("said " + s[0] + " " + s[1], x.whose(), s[2]);
            }
            x.said(-1, 0);
            x.said(3, 3);
            x.said(4, 4);
            due("both", x.whose(), 8);
            x.said(4, 3);
            due("not all", x.whose(), 0);
            due("the text that rules is no matter", x.by(1) ? x.whose() : 0, 0);
        });
        Bounds.sentence("DEAREST: the LOT in the house that would bring most now; of like ones the lowest; none", () -> {
            due("no lots", Bounds.empty().dearest(), -1);
            due("no bidders", Bounds.one(0, 99).dearest(), -1);
            due("for 0", Bounds.one(0, 1, 50).dearest(), -1);
            due("for 1", Bounds.one(0, 2, 50).dearest(), 0);
            due("passed in", Bounds.one(0, 98, 48).dearest(), -1);
            HouseClearedUp x = Bounds.one(0, 20, 50);
            x.lot(5, 20, 1);
            x.want(0, 1, 50);
            due("like ones", x.dearest(), 0);
            x.lot(5, 22, 1);
            x.want(0, 2, 50);
            due("more by 1", x.dearest(), 2);
            x.burn(2);
            due("burnt", x.dearest(), 0);
            x.sell(0);
            due("sold", x.dearest(), 1);
            x.sell(1);
            due("none left", x.dearest(), -1);
        });
        Bounds.sentence("LEFT at a FLOOR: LOTS in the house (bits)", () -> {
            Bounds.bounded("left", Bounds::lived, HouseClearedUp::left, 0, 5, -1);
            HouseClearedUp x = twelve();
            for (int f = 0; f <= 5; f++) due("left(" + f + ")", x.left(f), 65 << f);
            HouseClearedUp y = away();
            due("in the house alone", y.left(0), 8);
            y.carry(3);
            due("carried from", y.left(0), 0);
            due("carried to", y.left(1), 8);
        });
        Bounds.sentence("RICHEST: the BIDDER of most PURSE; of like ones the lowest; none", () -> {
            HouseClearedUp x = Bounds.empty();
            due("none", x.richest(), -1);
            int[] purses = {0, 0, 1, 1, 9999}, due = {0, 0, 2, 2, 4};
            for (int b = 0; b < 5; b++) {
                x.bidder(purses[b]);
                due("of " + (b + 1), x.richest(), due[b]);
            }
        });
        Bounds.sentence("BY THE BOOK: PRICES together of a BIDDER (NONE: all)", () -> {
            HouseClearedUp x = twelve();
            due("none yet", x.ledger(-1), 0);
            due("none yet", x.ledger(0), 0);
            x.sell(0);
            due("bidder 1's", x.ledger(1), 10);
            x.sell(11);
            due("bidder 0's", x.ledger(0), 19);
            due("all", x.ledger(-1), 29);
            due("another", x.ledger(2), -2);
            due("another", x.ledger(-2), -2);
            x.want(1, 0, 12);
            due("buy", x.buy(0, 12), true);
            due("what was bought back was sold", x.ledger(1), 10);
            x.undo();
            x.undo();
            due("a sale that is taken back", x.ledger(0), 0);
        });
    }

    // ---- V

    /** A seed whose years go so: the first draws' x mod 6, and the last one's mod 8 if that is asked (8: any). */
    private static int seedOf(int mod8, int... deeds) {
        for (int seed = 0; seed < 10000; seed++) {
            int x = seed * 2 + 211;
            boolean fits = true;
            for (int i = 0; i < deeds.length && fits; i++) {
                boolean last = i == deeds.length - 1;
                fits = x % 6 == deeds[i] && (!last || mod8 == 8 || x % 8 == mod8);
                x = next(x);
            }
            if (fits) return seed;
        }
        due("a seed", 0, 1);
        return 0;
    }

    private static void years() {
        Bounds.sentence("YEARS by a SEED: X is SEED (0 .. 9999) * 2 + 211", () -> {
            Bounds.bounded("years by", Bounds::lived, (x, n) -> x.years(n, 3), 0, 9999, -1);
            for (int seed : new int[] {0, 1, 9998, 9999}) {
                HouseClearedUp x = Bounds.empty();
                x.years(seed, 1);
                due("X by " + seed, x.is(2), next(seed * 2 + 211));
            }
        });
        Bounds.sentence("n times (1 .. 40)", () -> {
            Bounds.bounded("years", Bounds::lived, (x, n) -> x.years(3, n), 1, 40, -1);
            for (int n : new int[] {1, 2, 39, 40}) {
                HouseClearedUp x = Bounds.empty();
                int weeks = x.years(7, n), at = 225, due = 0;
                for (int i = 0; i < n; i++) {
                    due += at % 6 >= 4 ? 1 : 0;
                    at = next(at);
                }
                due("weeks of " + n, weeks, due);
                due("X behind " + n, x.is(2), at);
            }
        });
        Bounds.sentence("of the LOT x mod how many there are", () -> {
            for (int many = 1; many <= 12; many++) {
                for (int seed = 0; seed < 300; seed += 3) { // 211 + 6 k is 1 mod 6
                    HouseClearedUp x = Bounds.empty();
                    for (int i = 0; i < many; i++) x.lot(0, 0, 1);
                    x.years(seed, 1);
                    due("carried is the one, of " + many + " by " + seed, x.left(1), 1 << (seed * 2 + 211) % many);
                }
            }
        });
        Bounds.sentence("0 SOLD (if it can be)", () -> {
            int seed = seedOf(8, 3, 0);
            HouseClearedUp x = Bounds.one(4, 20, 30, 25);
            x.years(seed, 2);
            due("sold", x.of(0, 3), 3);
            due("takings", x.is(1), 25);
            due("written down", x.book(-1, 0), 1);
            HouseClearedUp y = Bounds.one(4, 20, 9);
            y.years(seed, 2);
            due("passed in", y.of(0, 3), 0);
            HouseClearedUp z = Bounds.one(4, 20);
            z.years(seed, 2);
            due("without bidders", z.of(0, 3), 0);
        });
        Bounds.sentence("1 CARRIED (if it can be)", () -> {
            HouseClearedUp x = Bounds.one(0, 20);
            x.years(0, 1);
            due("carried", x.of(0, 0), 1);
            x.years(0, 1);
            due("not above the sale", x.of(0, 0), 1);
            x.week(9);
            for (int f = 2; f <= 7; f++) {
                x.years(0, 1);
                due("5 at most", x.of(0, 0), Math.min(5, f));
            }
        });
        Bounds.sentence("2 BURNT, if x mod 8 is 2", () -> {
            for (int mod8 = 0; mod8 < 8; mod8 += 2) {
                HouseClearedUp x = Bounds.one(3, 20);
                x.years(seedOf(mod8, 3, 2), 2);
                due("mod 8 is " + mod8, x.of(0, 3), mod8 == 2 ? 2 : 0);
            }
            HouseClearedUp sold = Bounds.one(0, 0, 0);
            sold.sell(0);
            sold.want(0, 0, 99);
            sold.years(seedOf(2, 3, 2), 2);
            due("not with a bidder", sold.of(0, 3), 3);
        });
        Bounds.sentence("3 BOUGHT BACK for 20 and x mod 30 (if it can be)", () -> {
            for (int seed = 1; seed < 100; seed += 3) { // 213 + 6 k is 3 mod 6
                int price = 20 + (seed * 2 + 211) % 30;
                for (int less = 0; less <= 1; less++) {
                    boolean can = less == 1;
                    HouseClearedUp x = oneSold(price + 1 - less);
                    x.years(seed, 1);
                    due("bought back for " + price + ", its want less by " + less, x.of(0, 3), can ? 1 : 3);
                    due("takings", x.is(1), can ? 60 - price : 60);
                }
                HouseClearedUp poor = Bounds.one(0, 2 * price - 2, 99);
                poor.sell(0);
                poor.want(0, 0, 0);
                due("takings", poor.is(1), price - 1);
                poor.years(seed, 1);
                due("for more than is in takings", poor.of(0, 3), 3);
            }
        });
        Bounds.sentence("4, 5 a WEEK (if it can pass)", () -> {
            HouseClearedUp x = Bounds.one(0, 20, 30, 20);
            due("5", x.years(2, 1), 1);
            due("sold in it", x.book(-1, 0), 1);
            due("4", Bounds.empty().years(seedOf(8, 3, 4), 2), 1);
            due("at 9998", Bounds.atWeek(9998).years(2, 1), 9999);
            due("at 9999", Bounds.atWeek(9999).years(2, 1), 9999);
            HouseClearedUp y = Bounds.atWeek(9999);
            due("of 40 none passes", y.years(2, 40), 9999);
            int at = 215;
            for (int i = 0; i < 40; i++) at = next(at);
            due("and no draw of a week", y.is(2), at);
        });
        Bounds.sentence("Without LOTS all but WEEKS are nothing", () -> {
            HouseClearedUp x = Bounds.empty();
            x.bidder(50);
            for (int seed = 0; seed < 4; seed++) {
                int at = seed * 2 + 211;
                int due = x.is(0);
                for (int i = 0; i < 40; i++) {
                    due += at % 6 >= 4 ? 1 : 0;
                    at = next(at);
                }
                due("years", x.years(seed, 40), due);
                due("X", x.is(2), at);
            }
            due("purse", x.ofBidder(0, 0), 50);
            due("book", x.book(-1, 0), 0);
        });
        Bounds.sentence("It is one STEP: WEEK", () -> {
            HouseClearedUp x = Bounds.one(0, 20, 30, 20);
            int week = x.years(11, 40);
            due("week", x.is(0), week);
            due("one step", x.about(4), 1);
            due("undo", x.undo(), 0);
            due("week", x.is(0), 0);
            due("X", x.is(2), 211);
            due("where", x.of(0, 3), 0);
            x.years(0, 1);
            x.years(0, 1);
            due("one of which nothing came is one", x.about(4), 2);
        });
    }

    /** Lot 0 is with the one bidder, whose want is as told; 60 are in takings. */
    private static HouseClearedUp oneSold(int want) {
        HouseClearedUp x = new HouseClearedUp();
        x.lot(0, 0, 1);
        x.bidder(500);
        x.bidder(500);
        x.want(0, 0, 99);
        x.want(1, 0, 60);
        x.sell(0);
        x.want(0, 0, want);
        return x;
    }

    private static void image() {
        Bounds.sentence("AN IMAGE: all as it is, but the tape and the latest FAULT", () -> {
            HouseClearedUp x = Bounds.lived();
            due("image", x.image(), 1);
            Bounds.read(x, "week 61;");
            Bounds.feed(x, "carry 0");
            due("back", x.back(), 1);
            due("the tape", x.about(7), 7);
            due("the fault", x.fault(0), 2);
            due("its place", x.fault(1), 5);
            Bounds.asNow("an image and back", Bounds::lived, y -> {
                y.image();
                changeAll(y);
                return y.back();
            }, 1);
        });
        Bounds.sentence("BACK: all is so again", () -> {
            HouseClearedUp x = Bounds.lived();
            x.image();
            for (int time = 0; time < 3; time++) {
                changeAll(x);
                due("back", x.back(), 1);
                due("takings", x.is(1), 18);
                due("steps", x.about(4), 6);
            }
            Bounds.asNow("back twice", Bounds::lived, y -> {
                y.image();
                changeAll(y);
                y.back();
                changeAll(y);
                return y.back();
            }, 1);
            Bounds.asNow("a full house", Bounds::full, y -> {
                y.image();
                for (int i = 0; i < 30; i++) y.undo();
                y.bundle(-1, 0, 0);
                y.said(-1, 0);
                y.by(0);
                return y.back();
            }, 31);
            Bounds.asNow("others in their place", Bounds::lived, y -> {
                y.image();
                y.bundle(-1, 0, 0);
                y.bundle(2, 48, 900);
                y.bundle(2, 16, 800);
                y.bundle(0, 8, 700);
                y.said(-1, 0);
                y.said(5, 6);
                y.said(4, 5);
                for (int i = 0; i < 6; i++) y.undo();
                y.sell(5);
                y.sell(4);
                return y.back();
            }, 1);
            HouseClearedUp said = twelve();
            Bounds.read(said, "warms lot;");
            said.said(3, 3);
            said.image();
            said.said(-1, 0);
            said.said(5, 3);
            due("not its law", said.whose(), 0);
            said.back();
            due("said as it was", said.whose(), 1);
            Bounds.asNow("without an image the empty house", HouseClearedUp::new, y -> {
                changeAll(y);
                return y.back();
            }, 0);
        });
    }

    private static void changeAll(HouseClearedUp x) {
        x.lot(1, 1, 1);
        x.bidder(9);
        x.want(0, 3, 99);
        x.by(-1);
        x.week(33);
        x.burn(3);
        x.years(3, 40);
        x.bundle(0, 1, 500);
        x.said(1, 0);
        x.stair(0, 5);
        x.gone(3, 4);
        x.odds(1, 7);
        for (int i = 0; i < 30; i++) x.undo();
        x.week(2);
    }
}
