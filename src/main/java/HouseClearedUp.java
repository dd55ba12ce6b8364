import java.util.Arrays;

/** A house that is sold from the cellar upward, a floor a week. */
public final class HouseClearedUp {
    public static final int NONE = -1;

    private static final int NOT_SUCH = -2;
    private static final int MOST_LOTS = 12;
    private static final int MOST_BIDDERS = 5;
    private static final int MOST_TEXTS = 4;
    private static final int MOST_BUNDLES = 8;
    private static final int MOST_SAID = 8;
    private static final int MOST_STEPS = 30;
    private static final int MOST_SALES = 30;
    private static final int MOST_IN_ORDER = 5;
    private static final int FLOORS = 6;
    private static final int TOP_FLOOR = 5;
    private static final int LEVELS = 6;
    private static final int MOST_WORTH = 99;
    private static final int MOST_WEIGHT = 9;
    private static final int MOST_WANT = 99;
    private static final int MOST_PURSE = 9999;
    private static final int MOST_TAKINGS = 99999;
    private static final int MOST_PRICE = 999;
    private static final int MOST_RESERVE = 999;
    private static final int MOST_WARMS = 10;
    private static final int LAST_WEEK = 9999;
    private static final int MOST_WEEKS = 60;
    private static final int MOST_YEARS = 40;
    private static final int FIRST_X = 211;

    private static final int IN_HOUSE = 0;
    private static final int WITH_FAMILY = 1;
    private static final int BURNT = 2;
    private static final int FIRST_OWNER = 3;

    private static final int MOST_BYTES = 300;
    private static final int MOST_CLAUSES = 24;
    private static final int MOST_OPEN = 8;
    private static final int MOST_NUMBER = 9999;

    // Kinds of tokens: words in the order of WORDS, so that those that begin a
    // clause (1 to 11) and those that are names (9 to 17) stand side by side.
    private static final String WORDS =
        "bids reserve warms bidder sell carry burn buy lot want week worth weight floor purse who has of by for then else end if not even worths or and ";
    private static final int NO_TOKEN = 0;
    private static final int BIDS = 1;
    private static final int RESERVE = 2;
    private static final int WARMS = 3;
    private static final int BIDDER = 4;
    private static final int SELL = 5;
    private static final int CARRY = 6;
    private static final int BURN = 7;
    private static final int BUY = 8;
    private static final int LOT = 9;
    private static final int WANT = 10;
    private static final int WEEK = 11;
    private static final int WORTH = 12;
    private static final int WEIGHT = 13;
    private static final int FLOOR = 14;
    private static final int PURSE = 15;
    private static final int WHO = 16;
    private static final int HAS = 17;
    private static final int OF = 18;
    private static final int BY = 19;
    private static final int FOR = 20;
    private static final int THEN = 21;
    private static final int ELSE = 22;
    private static final int END = 23;
    private static final int IF = 24;
    private static final int NOT = 25;
    private static final int EVEN = 26;
    private static final int WORTHS = 27;
    private static final int OR = 28;
    private static final int AND = 29;
    private static final int NUMBER = 30;
    private static final int LESS = 31;
    private static final int AT_MOST = 32;
    private static final int MORE = 33;
    private static final int AT_LEAST = 34;
    private static final int LIKE = 35;
    private static final int UNLIKE = 36;
    private static final int PLUS = 37;
    private static final int MINUS = 38;
    private static final int TIMES = 39;
    private static final int OVER = 40;
    private static final int OPENING = 41;
    private static final int CLOSING = 42;
    private static final int SEMICOLON = 43;
    private static final int TEXT_END = 44;
    private static final int NEGATE = 45;

    // A law's code is kept as kind * KIND_UNIT + number.
    private static final int KIND_UNIT = 16384;

    private final Told told = new Told();
    private final House house = new House();
    private final Steps steps = new Steps();
    private final Told imageTold = new Told();
    private final House imageHouse = new House();
    private final Steps imageSteps = new Steps();
    private final Tape tape = new Tape();
    private final Reader reader = new Reader(tape);
    private final Sale sale = new Sale(told);
    private final Choices choices = new Choices(told, sale);
    private final House trial = new House();

    public HouseClearedUp() {
    }

    // ---- what is told

    public int lot(int floor, int worth, int weight) {
        if (!within(floor, 0, TOP_FLOOR) || !within(worth, 0, MOST_WORTH) || !within(weight, 1, MOST_WEIGHT)) {
            return NONE;
        }
        if (told.lots >= MOST_LOTS) {
            return NONE;
        }
        int lot = told.lots;
        told.worth[lot] = worth;
        told.weight[lot] = weight;
        told.lots++;
        house.floor[lot] = floor;
        steps.tellFloor(lot, floor);
        return lot;
    }

    public int bidder(int purse) {
        if (!within(purse, 0, MOST_PURSE) || told.bidders >= MOST_BIDDERS) {
            return NONE;
        }
        int bidder = told.bidders;
        told.bidders++;
        house.purse[bidder] = purse;
        steps.tellPurse(bidder, purse);
        return bidder;
    }

    public boolean want(int bidder, int lot, int want) {
        if (!told.hasBidder(bidder) || !told.hasLot(lot) || !within(want, 0, MOST_WANT)) {
            return false;
        }
        house.want[wantAt(bidder, lot)] = want;
        steps.tellWant(wantAt(bidder, lot), want);
        return true;
    }

    public int feed(int a, int b, int c, int d, int e) {
        if (tape.length + 20 > MOST_BYTES) {
            return NONE;
        }
        tape.append(a);
        tape.append(b);
        tape.append(c);
        tape.append(d);
        tape.append(e);
        return tape.length;
    }

    public int end(int n) {
        if (!within(n, 0, tape.length)) {
            return NONE;
        }
        tape.length = n;
        return n;
    }

    public int text() {
        if (told.texts >= MOST_TEXTS) {
            return NONE;
        }
        boolean sound = reader.read();
        tape.length = 0;
        if (!sound) {
            return NONE;
        }
        told.scripts[told.texts] = reader.script();
        told.texts++;
        return told.texts - 1;
    }

    public int fault(int what) {
        if (what == 0) {
            return reader.fault;
        }
        return what == 1 ? reader.place : NONE;
    }

    public boolean by(int text) {
        if (text != NONE && !told.hasText(text)) {
            return false;
        }
        told.ruling = text;
        return true;
    }

    // ---- steps

    public int sell(int lot) {
        if (!sale.canSell(house, lot)) {
            return NOT_SUCH;
        }
        steps.push(house);
        sale.findWinner(house, lot);
        sale.handOver(house, lot);
        return sale.price;
    }

    public boolean carry(int lot) {
        if (!sale.canCarry(house, lot)) {
            return false;
        }
        steps.push(house);
        house.floor[lot]++;
        return true;
    }

    public boolean burn(int lot) {
        if (!sale.canBurn(house, lot)) {
            return false;
        }
        steps.push(house);
        house.where[lot] = BURNT;
        return true;
    }

    public boolean buy(int lot, int price) {
        if (!sale.canBuyBack(house, lot, price)) {
            return false;
        }
        steps.push(house);
        sale.buyBack(house, lot, price);
        return true;
    }

    public int week(int n) {
        if (!within(n, 1, MOST_WEEKS) || house.week + n > LAST_WEEK) {
            return NONE;
        }
        return passWeeks(n);
    }

    public int played(int text) {
        Script script = told.scriptOf(text);
        if (script == null) {
            return NOT_SUCH;
        }
        for (int i = 0; i < script.clauses; i++) {
            if (!playClause(script, i)) {
                return i;
            }
        }
        return NONE;
    }

    public int years(int seed, int n) {
        if (!within(seed, 0, 9999) || !within(n, 1, MOST_YEARS)) {
            return NONE;
        }
        steps.push(house);
        house.x = seed * 2 + FIRST_X;
        for (int i = 0; i < n; i++) {
            sale.drawYear(house);
        }
        return house.week;
    }

    public int undo() {
        return steps.pop(house) ? steps.count : NONE;
    }

    private int passWeeks(int n) {
        int sold = 0;
        for (int i = 0; i < n; i++) {
            steps.push(house);
            sold += sale.passWeek(house);
        }
        return sold;
    }

    private boolean playClause(Script script, int i) {
        int first = script.numberOf(i, 0);
        int second = script.numberOf(i, 1);
        int third = script.numberOf(i, 2);
        switch (script.kindOf(i)) {
            case LOT:
                return lot(first, second, third) != NONE;
            case BIDDER:
                return bidder(first) != NONE;
            case WANT:
                return want(third, second, first);
            case SELL:
                return sell(first) != NOT_SUCH;
            case CARRY:
                return carry(first);
            case BURN:
                return burn(first);
            case BUY:
                return buy(first, second);
            case WEEK:
                int can = Math.min(first, LAST_WEEK - house.week);
                passWeeks(can);
                return can == first;
            default:
                return true;
        }
    }

    // ---- what is

    public int of(int lot, int what) {
        if (!told.hasLot(lot)) {
            return NOT_SUCH;
        }
        switch (what) {
            case 0:
                return house.floor[lot];
            case 1:
                return told.worth[lot];
            case 2:
                return told.weight[lot];
            case 3:
                return house.where[lot];
            case 4:
                return sale.reserveFor(house, lot);
            case 5:
                return sale.warmsBy(told.scriptOf(told.ruling), house, lot);
            case 6:
                sale.findWinner(house, lot);
                return sale.winner;
            case 7:
                sale.findWinner(house, lot);
                return sale.price;
            default:
                return NOT_SUCH;
        }
    }

    public int ofBidder(int bidder, int what) {
        if (!told.hasBidder(bidder) || !within(what, 0, 2)) {
            return NOT_SUCH;
        }
        if (what == 0) {
            return house.purse[bidder];
        }
        int set = 0;
        int wants = 0;
        for (int lot = 0; lot < told.lots; lot++) {
            if (house.where[lot] == FIRST_OWNER + bidder) {
                set |= 1 << lot;
                wants += house.want[wantAt(bidder, lot)];
            }
        }
        return what == 1 ? set : wants;
    }

    public int bids(int bidder, int lot) {
        if (!told.hasBidder(bidder) || !told.hasLot(lot)) {
            return NONE;
        }
        return sale.bidOf(house, bidder, lot);
    }

    public int is(int what) {
        switch (what) {
            case 0:
                return house.week;
            case 1:
                return house.takings;
            case 2:
                return house.x;
            case 3:
                return house.saleFloor();
            case 4:
                return house.lotsAt(house.saleFloor(), told.lots);
            default:
                return NOT_SUCH;
        }
    }

    public int book(int i, int what) {
        if (i == NONE) {
            return house.sales;
        }
        if (!within(i, 0, house.sales - 1) || !within(what, 0, 3)) {
            return NOT_SUCH;
        }
        return house.book[i * 4 + what];
    }

    // ---- what comes and what is best

    public int foretold(int n, int what, int lot) {
        if (!within(n, 1, MOST_WEEKS) || !within(what, 0, 2) || (what == 1 && !told.hasLot(lot))) {
            return NOT_SUCH;
        }
        trial.copyFrom(house);
        int weeks = Math.min(n, LAST_WEEK - house.week);
        int sold = 0;
        for (int i = 0; i < weeks; i++) {
            sold += sale.passWeek(trial);
        }
        if (what == 0) {
            return trial.takings;
        }
        return what == 1 ? trial.where[lot] : sold;
    }

    public int order(int lots, int i) {
        int many = Integer.bitCount(lots);
        if (!told.hasLots(lots) || !within(many, 1, MOST_IN_ORDER) || !within(i, NONE, many - 1)) {
            return NOT_SUCH;
        }
        for (int lot = 0; lot < told.lots; lot++) {
            if ((lots >> lot & 1) != 0 && house.where[lot] != IN_HOUSE) {
                return NOT_SUCH;
            }
        }
        trial.copyFrom(house);
        choices.findOrder(trial, lots);
        return i == NONE ? choices.bestTotal : choices.bestPath[i];
    }

    public int bundle(int bidder, int lots, int price) {
        if (bidder == NONE) {
            told.bundles = 0;
            return 0;
        }
        if (!told.hasBidder(bidder) || lots == 0 || !told.hasLots(lots) || !within(price, 0, 9999)) {
            return NOT_SUCH;
        }
        if (told.bundles >= MOST_BUNDLES) {
            return NOT_SUCH;
        }
        told.bundleBidder[told.bundles] = bidder;
        told.bundleLots[told.bundles] = lots;
        told.bundlePrice[told.bundles] = price;
        told.bundles++;
        return told.bundles;
    }

    public int winners(boolean price) {
        int set = choices.bestBundles(NONE);
        return price ? choices.pricesOf(set, NONE) : set;
    }

    public int pays(int bidder) {
        if (!told.hasBidder(bidder)) {
            return NONE;
        }
        int without = choices.pricesOf(choices.bestBundles(bidder), NONE);
        return without - choices.pricesOf(choices.bestBundles(NONE), bidder);
    }

    public int kept(int k, boolean worth) {
        if (!within(k, 1, MOST_LOTS)) {
            return NONE;
        }
        int set = choices.bestKept(house, k);
        if (!worth) {
            return set;
        }
        int sum = 0;
        for (int lot = 0; lot < told.lots; lot++) {
            sum += (set >> lot & 1) * told.worth[lot];
        }
        return sum;
    }

    // ---- stairs and offers

    public boolean stair(int a, int b) {
        if (!unlikeFloors(a, b) || told.stairs.joins(a, b)) {
            return false;
        }
        told.stairs.turn(a, b);
        return true;
    }

    public boolean gone(int a, int b) {
        if (!unlikeFloors(a, b) || !told.stairs.joins(a, b)) {
            return false;
        }
        told.stairs.turn(a, b);
        return true;
    }

    public int climb(int a, int b) {
        if (!within(a, 0, TOP_FLOOR) || !within(b, 0, TOP_FLOOR)) {
            return NONE;
        }
        return told.stairs.fewest(a, b);
    }

    public int cut(int a, int b) {
        return unlikeFloors(a, b) ? told.stairs.leastCut(a, b) : NONE;
    }

    public int bridges() {
        return told.stairs.countBridges();
    }

    public boolean odds(int level, int odds) {
        if (!within(level, 0, LEVELS - 1) || !within(odds, 0, 10)) {
            return false;
        }
        told.offers.odds[level] = odds;
        return true;
    }

    public long leave(int n, boolean low) {
        if (!within(n, 0, 6) || !told.offers.areWhole()) {
            return NONE;
        }
        long unit = Offers.unitOf(n);
        long mean = told.offers.meanOf(n);
        long share = commonDivisor(unit, mean);
        if (share == 0) {
            return NONE;
        }
        return (low ? unit : mean) / share;
    }

    public int takes(int n, int level) {
        if (!within(n, 0, 6) || !within(level, 0, LEVELS - 1) || !told.offers.areWhole()) {
            return NONE;
        }
        return 10L * level * Offers.unitOf(n) >= told.offers.meanOf(n) ? 1 : 0;
    }

    // ---- what was burnt, whose law it was

    public int ash(int weight, int many) {
        if (!within(weight, 0, MOST_LOTS * MOST_WEIGHT) || !within(many, 0, MOST_LOTS)) {
            return NONE;
        }
        choices.findAshes(house, weight, many);
        return choices.ashSets;
    }

    public int burnt(int weight, int many, boolean all) {
        if (ash(weight, many) == NONE) {
            return NONE;
        }
        if (choices.ashSets == 0) {
            return 0;
        }
        return all ? choices.inAllSets : choices.couldBurn & ~choices.inSomeSet;
    }

    public int said(int lot, int warms) {
        if (lot == NONE) {
            told.saids = 0;
            return 0;
        }
        if (!told.hasLot(lot) || !within(warms, 0, MOST_WARMS) || told.saids >= MOST_SAID) {
            return NOT_SUCH;
        }
        told.saidLot[told.saids] = lot;
        told.saidWarms[told.saids] = warms;
        told.saids++;
        return told.saids;
    }

    public int whose() {
        int set = 0;
        for (int text = 0; text < told.texts; text++) {
            if (saysAll(told.scriptOf(text))) {
                set |= 1 << text;
            }
        }
        return set;
    }

    private boolean saysAll(Script script) {
        for (int i = 0; i < told.saids; i++) {
            if (sale.warmsBy(script, house, told.saidLot[i]) != told.saidWarms[i]) {
                return false;
            }
        }
        return true;
    }

    public int dearest() {
        int best = NONE;
        int most = 0;
        for (int lot = 0; lot < told.lots; lot++) {
            sale.findWinner(house, lot);
            if (sale.price > most) {
                most = sale.price;
                best = lot;
            }
        }
        return best;
    }

    public int left(int floor) {
        return within(floor, 0, TOP_FLOOR) ? house.lotsAt(floor, told.lots) : NONE;
    }

    public int ledger(int bidder) {
        if (bidder != NONE && !told.hasBidder(bidder)) {
            return NOT_SUCH;
        }
        int sum = 0;
        for (int i = 0; i < house.sales; i++) {
            if (bidder == NONE || house.book[i * 4 + 2] == bidder) {
                sum += house.book[i * 4 + 3];
            }
        }
        return sum;
    }

    public int richest() {
        int best = NONE;
        int most = NONE;
        for (int bidder = 0; bidder < told.bidders; bidder++) {
            if (house.purse[bidder] > most) {
                most = house.purse[bidder];
                best = bidder;
            }
        }
        return best;
    }

    // ---- the image

    public int image() {
        imageTold.copyFrom(told);
        imageHouse.copyFrom(house);
        imageSteps.copyFrom(steps);
        return house.week;
    }

    public int back() {
        told.copyFrom(imageTold);
        house.copyFrom(imageHouse);
        steps.copyFrom(imageSteps);
        return house.week;
    }

    public int about(int what) {
        switch (what) {
            case 0:
                return told.lots;
            case 1:
                return told.bidders;
            case 2:
                return told.texts;
            case 3:
                return told.ruling;
            case 4:
                return steps.count;
            case 5:
                return told.bundles;
            case 6:
                return told.saids;
            case 7:
                return tape.length;
            default:
                return NOT_SUCH;
        }
    }

    // ---- small helpers

    private static boolean within(int n, int least, int most) {
        return n >= least && n <= most;
    }

    private static boolean unlikeFloors(int a, int b) {
        return a != b && within(a, 0, TOP_FLOOR) && within(b, 0, TOP_FLOOR);
    }

    private static int wantAt(int bidder, int lot) {
        return bidder * MOST_LOTS + lot;
    }

    private static long commonDivisor(long a, long b) {
        long high = a;
        long low = b;
        for (int i = 0; i < 100 && low != 0; i++) {
            long rest = high % low;
            high = low;
            low = rest;
        }
        return high;
    }

    /** All that steps change, and so all that is taken back with one. */
    private static final class House {
        final int[] where = new int[MOST_LOTS];
        final int[] floor = new int[MOST_LOTS];
        final int[] purse = new int[MOST_BIDDERS];
        final int[] want = new int[MOST_BIDDERS * MOST_LOTS];
        final int[] book = new int[MOST_SALES * 4];
        int sales;
        int takings;
        int week;
        int x = FIRST_X;

        void copyFrom(House other) {
            System.arraycopy(other.where, 0, where, 0, where.length);
            System.arraycopy(other.floor, 0, floor, 0, floor.length);
            System.arraycopy(other.purse, 0, purse, 0, purse.length);
            System.arraycopy(other.want, 0, want, 0, want.length);
            System.arraycopy(other.book, 0, book, 0, book.length);
            sales = other.sales;
            takings = other.takings;
            week = other.week;
            x = other.x;
        }

        int saleFloor() {
            return Math.min(week, TOP_FLOOR);
        }

        boolean keepsAt(int lot, int atFloor) {
            return where[lot] == IN_HOUSE && floor[lot] == atFloor;
        }

        int lotsAt(int atFloor, int lots) {
            int set = 0;
            for (int lot = 0; lot < lots; lot++) {
                if (keepsAt(lot, atFloor)) {
                    set |= 1 << lot;
                }
            }
            return set;
        }

        void writeDown(int lot, int bidder, int price) {
            if (sales >= MOST_SALES) {
                System.arraycopy(book, 4, book, 0, book.length - 4);
                sales = MOST_SALES - 1;
            }
            int at = sales * 4;
            book[at] = week;
            book[at + 1] = lot;
            book[at + 2] = bidder;
            book[at + 3] = price;
            sales++;
        }

        int turnX() {
            int old = x;
            x = (x * 449 + 337) % 30593;
            return old;
        }
    }

    /** What was told and no step changes. */
    private static final class Told {
        int lots;
        int bidders;
        final int[] worth = new int[MOST_LOTS];
        final int[] weight = new int[MOST_LOTS];
        int texts;
        final Script[] scripts = new Script[MOST_TEXTS];
        int ruling = NONE;
        int bundles;
        final int[] bundleBidder = new int[MOST_BUNDLES];
        final int[] bundleLots = new int[MOST_BUNDLES];
        final int[] bundlePrice = new int[MOST_BUNDLES];
        int saids;
        final int[] saidLot = new int[MOST_SAID];
        final int[] saidWarms = new int[MOST_SAID];
        final Stairs stairs = new Stairs();
        final Offers offers = new Offers();

        void copyFrom(Told other) {
            lots = other.lots;
            bidders = other.bidders;
            texts = other.texts;
            ruling = other.ruling;
            bundles = other.bundles;
            saids = other.saids;
            System.arraycopy(other.worth, 0, worth, 0, worth.length);
            System.arraycopy(other.weight, 0, weight, 0, weight.length);
            System.arraycopy(other.bundleBidder, 0, bundleBidder, 0, MOST_BUNDLES);
            System.arraycopy(other.bundleLots, 0, bundleLots, 0, MOST_BUNDLES);
            System.arraycopy(other.bundlePrice, 0, bundlePrice, 0, MOST_BUNDLES);
            System.arraycopy(other.saidLot, 0, saidLot, 0, MOST_SAID);
            System.arraycopy(other.saidWarms, 0, saidWarms, 0, MOST_SAID);
            System.arraycopy(other.stairs.beside, 0, stairs.beside, 0, FLOORS);
            System.arraycopy(other.offers.odds, 0, offers.odds, 0, LEVELS);
            // A script never changes once it is read, so both may hold it.
            for (int i = 0; i < MOST_TEXTS; i++) {
                scripts[i] = other.scripts[i];
            }
        }

        boolean hasLot(int lot) {
            return within(lot, 0, lots - 1);
        }

        boolean hasLots(int set) {
            return set >= 0 && set < 1 << lots;
        }

        boolean hasBidder(int bidder) {
            return within(bidder, 0, bidders - 1);
        }

        boolean hasText(int text) {
            return within(text, 0, texts - 1);
        }

        Script scriptOf(int text) {
            return text >= 0 && text < texts ? scripts[text] : null;
        }
    }

    /** The latest steps: the house as it was ahead of each, in a ring. */
    private static final class Steps {
        private final House[] rows = new House[MOST_STEPS];
        private int first;
        int count;

        Steps() {
            for (int i = 0; i < MOST_STEPS; i++) {
                rows[i] = new House();
            }
        }

        void push(House house) {
            rows[(first + count) % MOST_STEPS].copyFrom(house);
            if (count < MOST_STEPS) {
                count++;
            } else {
                first = (first + 1) % MOST_STEPS;
            }
        }

        boolean pop(House house) {
            if (count == 0) {
                return false;
            }
            count--;
            house.copyFrom(rows[(first + count) % MOST_STEPS]);
            return true;
        }

        void copyFrom(Steps other) {
            first = other.first;
            count = other.count;
            for (int i = 0; i < count; i++) {
                int at = (first + i) % MOST_STEPS;
                rows[at].copyFrom(other.rows[at]);
            }
        }

        // What is told since a step stays as told when it is taken back, so
        // it is told to every row too.

        void tellFloor(int lot, int floor) {
            for (int i = 0; i < MOST_STEPS; i++) {
                rows[i].floor[lot] = floor;
            }
        }

        void tellPurse(int bidder, int purse) {
            for (int i = 0; i < MOST_STEPS; i++) {
                rows[i].purse[bidder] = purse;
            }
        }

        void tellWant(int at, int want) {
            for (int i = 0; i < MOST_STEPS; i++) {
                rows[i].want[at] = want;
            }
        }
    }

    /** Which floors are joined: of each floor a set of those beside it. */
    private static final class Stairs {
        final int[] beside = {2, 5, 10, 20, 40, 16};

        boolean joins(int a, int b) {
            return (beside[a] >> b & 1) != 0;
        }

        /** A stair that was there is gone, one that wasn't is there. */
        void turn(int a, int b) {
            beside[a] ^= 1 << b;
            beside[b] ^= 1 << a;
        }

        int fewest(int a, int b) {
            int reached = 1 << a;
            for (int far = 0; far < FLOORS; far++) {
                if ((reached >> b & 1) != 0) {
                    return far;
                }
                reached |= besideAny(reached);
            }
            return NONE;
        }

        private int besideAny(int set) {
            int found = 0;
            for (int floor = 0; floor < FLOORS; floor++) {
                if ((set >> floor & 1) != 0) {
                    found |= beside[floor];
                }
            }
            return found;
        }

        /** Each way to part the floors cuts some stairs; the least is the cut. */
        int leastCut(int a, int b) {
            int least = FLOORS * FLOORS;
            for (int side = 0; side < 1 << FLOORS; side++) {
                if ((side >> a & 1) != 0 && (side >> b & 1) == 0) {
                    least = Math.min(least, stairsOutOf(side));
                }
            }
            return least;
        }

        private int stairsOutOf(int side) {
            int many = 0;
            for (int floor = 0; floor < FLOORS; floor++) {
                if ((side >> floor & 1) != 0) {
                    many += Integer.bitCount(beside[floor] & ~side);
                }
            }
            return many;
        }

        int countBridges() {
            int many = 0;
            for (int a = 0; a < FLOORS; a++) {
                for (int b = a + 1; b < FLOORS; b++) {
                    if (joins(a, b) && leastCut(a, b) == 1) {
                        many++;
                    }
                }
            }
            return many;
        }
    }

    /** Offers by levels, and what waiting for them is worth. */
    private static final class Offers {
        final int[] odds = {10, 0, 0, 0, 0, 0};

        boolean areWhole() {
            int sum = 0;
            for (int level = 0; level < LEVELS; level++) {
                sum += odds[level];
            }
            return sum == 10;
        }

        /** Below the line of the mean with n weeks left: 10 to the n. */
        static long unitOf(int n) {
            long unit = 1;
            for (int i = 0; i < n; i++) {
                unit *= 10;
            }
            return unit;
        }

        /** The mean with n weeks left, times its unit. */
        long meanOf(int n) {
            long mean = 0;
            for (int i = 0; i < n; i++) {
                long next = 0;
                for (int level = 0; level < LEVELS; level++) {
                    next += odds[level] * Math.max(10L * level * unitOf(i), mean);
                }
                mean = next;
            }
            return mean;
        }
    }

    /** A text that was read: its clauses, and the code of its laws. */
    private static final class Script {
        final int clauses;
        private final int[] rows;
        private final int[] code;
        private final int[] lawFrom;
        private final int[] lawTo;

        Script(int clauses, int[] rows, int[] code, int[] lawFrom, int[] lawTo) {
            this.clauses = clauses;
            this.rows = rows;
            this.code = code;
            this.lawFrom = lawFrom;
            this.lawTo = lawTo;
        }

        int kindOf(int clause) {
            return rows[clause * 4];
        }

        int numberOf(int clause, int i) {
            return rows[clause * 4 + 1 + i];
        }

        boolean rules(int law) {
            return lawTo[law] > lawFrom[law];
        }
    }

    /** The bytes that were fed, and the tokens that they are. */
    private static final class Tape {
        int length;
        int tokens;
        private final int[] bytes = new int[MOST_BYTES];
        private final int[] kinds = new int[MOST_BYTES + 1];
        private final int[] places = new int[MOST_BYTES + 1];
        private final int[] values = new int[MOST_BYTES + 1];

        void append(int four) {
            for (int shift = 24; shift >= 0 && length < MOST_BYTES; shift -= 8) {
                bytes[length] = four >> shift & 255;
                length++;
            }
        }

        int kindAt(int token) {
            return token >= 0 && token < tokens ? kinds[token] : TEXT_END;
        }

        int placeAt(int token) {
            return token >= 0 && token < tokens ? places[token] : length;
        }

        int valueAt(int token) {
            return token >= 0 && token < tokens ? values[token] : 0;
        }

        void split() {
            tokens = 0;
            for (int at = 0; at < length; at++) {
                if (bytes[at] == 32 || bytes[at] == 10) {
                    continue;
                }
                int last = lastOf(at);
                places[tokens] = at;
                values[tokens] = 0;
                if (isLetter(bytes[at])) {
                    kinds[tokens] = wordKind(at, last + 1);
                } else if (isDigit(bytes[at])) {
                    kinds[tokens] = NUMBER;
                    values[tokens] = numberIn(at, last + 1);
                } else {
                    kinds[tokens] = signKind(bytes[at], last > at);
                }
                tokens++;
                at = last;
            }
        }

        private int lastOf(int first) {
            int last = first;
            if (isLetter(bytes[first])) {
                while (last + 1 < length && isLetter(bytes[last + 1])) {
                    last++;
                }
            } else if (isDigit(bytes[first])) {
                while (last + 1 < length && isDigit(bytes[last + 1])) {
                    last++;
                }
            } else if ((bytes[first] == '<' || bytes[first] == '>') && first + 1 < length && bytes[first + 1] == '=') {
                last++;
            }
            return last;
        }

        private int numberIn(int from, int to) {
            int number = 0;
            for (int at = from; at < to; at++) {
                number = Math.min(MOST_NUMBER + 1, number * 10 + bytes[at] - '0');
            }
            return number;
        }

        private int wordKind(int from, int to) {
            int kind = 1;
            int start = 0;
            for (int i = 0; i < WORDS.length(); i++) {
                if (WORDS.charAt(i) == ' ') {
                    if (i - start == to - from && isWord(start, from, to - from)) {
                        return kind;
                    }
                    kind++;
                    start = i + 1;
                }
            }
            return NO_TOKEN;
        }

        private boolean isWord(int start, int from, int many) {
            for (int i = 0; i < many; i++) {
                if (WORDS.charAt(start + i) != bytes[from + i]) {
                    return false;
                }
            }
            return true;
        }

        private static int signKind(int sign, boolean withEqual) {
            switch (sign) {
                case '<':
                    return withEqual ? AT_MOST : LESS;
                case '>':
                    return withEqual ? AT_LEAST : MORE;
                case '=':
                    return LIKE;
                case '#':
                    return UNLIKE;
                case '+':
                    return PLUS;
                case '-':
                    return MINUS;
                case '*':
                    return TIMES;
                case '/':
                    return OVER;
                case '(':
                    return OPENING;
                case ')':
                    return CLOSING;
                case ';':
                    return SEMICOLON;
                default:
                    return NO_TOKEN;
            }
        }

        private static boolean isLetter(int sign) {
            return within(sign, 'a', 'z') || within(sign, 'A', 'Z');
        }

        private static boolean isDigit(int sign) {
            return within(sign, '0', '9');
        }
    }

    /**
     * Reads a tape by its tokens. A reading method answers false once there is
     * a fault, and then all that called it stop too: the first fault counts.
     */
    private static final class Reader {
        int fault = NONE;
        int place = NONE;
        private final Tape tape;
        private int at;
        private int law;
        private int clauses;
        private int codeLength;
        private final int[] rows = new int[MOST_CLAUSES * 4];
        private final int[] code = new int[MOST_BYTES];
        private final int[] lawFrom = new int[WARMS + 1];
        private final int[] lawTo = new int[WARMS + 1];

        Reader(Tape tape) {
            this.tape = tape;
        }

        boolean read() {
            tape.split();
            at = 0;
            clauses = 0;
            codeLength = 0;
            fault = 0;
            place = NONE;
            Arrays.fill(rows, 0);
            Arrays.fill(lawFrom, 0);
            Arrays.fill(lawTo, 0);
            for (int i = 0; i <= MOST_CLAUSES && kind() != TEXT_END; i++) {
                if (!readClause()) {
                    return false;
                }
            }
            return true;
        }

        Script script() {
            return new Script(clauses, Arrays.copyOf(rows, clauses * 4), Arrays.copyOf(code, codeLength),
                lawFrom.clone(), lawTo.clone());
        }

        private int kind() {
            return tape.kindAt(at);
        }

        private boolean refuse(int which) {
            fault = which;
            place = tape.placeAt(at);
            return false;
        }

        private boolean readKind(int kind) {
            if (kind() != kind) {
                return refuse(1);
            }
            at++;
            return true;
        }

        private boolean readClause() {
            int kind = kind();
            if (!within(kind, BIDS, WEEK)) {
                return refuse(1);
            }
            if (kind <= WARMS && lawTo[kind] > lawFrom[kind]) {
                return refuse(4);
            }
            if (clauses >= MOST_CLAUSES) {
                return refuse(6);
            }
            at++;
            rows[clauses * 4] = kind;
            if (!(kind <= WARMS ? readLaw(kind) : readDeed(kind)) || !readKind(SEMICOLON)) {
                return false;
            }
            clauses++;
            return true;
        }

        private boolean readLaw(int kind) {
            law = kind;
            lawFrom[kind] = codeLength;
            if (!readSum(0)) {
                return false;
            }
            lawTo[kind] = codeLength;
            return true;
        }

        private boolean readDeed(int kind) {
            switch (kind) {
                case LOT:
                    return readNumber(1, 0, TOP_FLOOR)
                        && readKind(WORTH) && readNumber(2, 0, MOST_WORTH)
                        && readKind(WEIGHT) && readNumber(3, 1, MOST_WEIGHT);
                case BIDDER:
                    return readNumber(1, 0, MOST_PURSE);
                case WANT:
                    return readNumber(1, 0, MOST_WANT)
                        && readKind(OF) && readNumber(2, 0, MOST_LOTS - 1)
                        && readKind(BY) && readNumber(3, 0, MOST_BIDDERS - 1);
                case BUY:
                    return readNumber(1, 0, MOST_LOTS - 1)
                        && readKind(FOR) && readNumber(2, 0, MOST_PRICE);
                case WEEK:
                    return readNumber(1, 1, MOST_WEEKS);
                default:
                    return readNumber(1, 0, MOST_LOTS - 1);
            }
        }

        private boolean readNumber(int column, int least, int most) {
            if (kind() != NUMBER) {
                return refuse(1);
            }
            int value = tape.valueAt(at);
            if (!within(value, least, most)) {
                return refuse(2);
            }
            rows[clauses * 4 + column] = value;
            at++;
            return true;
        }

        // open: how many of those that fault 3 counts stand around.

        private boolean readSum(int open) {
            if (!readProduct(open)) {
                return false;
            }
            for (int i = 0; i < MOST_BYTES; i++) {
                int sign = kind();
                if (sign != PLUS && sign != MINUS) {
                    return true;
                }
                at++;
                if (!readProduct(open)) {
                    return false;
                }
                emit(sign, 0);
            }
            return true;
        }

        private boolean readProduct(int open) {
            if (!readOne(open)) {
                return false;
            }
            for (int i = 0; i < MOST_BYTES; i++) {
                int sign = kind();
                if (sign != TIMES && sign != OVER) {
                    return true;
                }
                at++;
                if (!readOne(open)) {
                    return false;
                }
                emit(sign, 0);
            }
            return true;
        }

        private boolean readOne(int open) {
            int kind = kind();
            if (kind == NUMBER) {
                return readPlainNumber();
            }
            if (within(kind, LOT, HAS)) {
                return readName(kind);
            }
            if (kind != OPENING && kind != MINUS && kind != EVEN && kind != WORTHS && kind != IF) {
                return refuse(1);
            }
            if (open >= MOST_OPEN) {
                return refuse(3);
            }
            at++;
            switch (kind) {
                case OPENING:
                    return readSum(open + 1) && readKind(CLOSING);
                case MINUS:
                    return readOne(open + 1) && emit(NEGATE, 0);
                case WORTHS:
                    return readOne(open + 1) && emit(WORTHS, 0);
                case EVEN:
                    return readOne(open + 1) && readKind(BY) && readOne(open + 1) && emit(EVEN, 0);
                default:
                    return readIf(open + 1);
            }
        }

        private boolean readPlainNumber() {
            int value = tape.valueAt(at);
            if (value > MOST_NUMBER) {
                return refuse(2);
            }
            at++;
            return emit(NUMBER, value);
        }

        private boolean readName(int kind) {
            boolean ofBidders = kind == WANT || kind == PURSE || kind == WHO || kind == HAS;
            if (ofBidders && law != BIDS) {
                return refuse(5);
            }
            at++;
            return emit(kind, 0);
        }

        private boolean readIf(int open) {
            if (!readEither(open) || !readKind(THEN)) {
                return false;
            }
            int unless = codeLength;
            emit(THEN, 0);
            if (!readSum(open) || !readKind(ELSE)) {
                return false;
            }
            int beyond = codeLength;
            emit(ELSE, 0);
            aim(unless);
            if (!readSum(open) || !readKind(END)) {
                return false;
            }
            aim(beyond);
            return true;
        }

        private boolean readEither(int open) {
            if (!readBoth(open)) {
                return false;
            }
            for (int i = 0; i < MOST_BYTES && kind() == OR; i++) {
                at++;
                if (!readBoth(open)) {
                    return false;
                }
                emit(OR, 0);
            }
            return true;
        }

        private boolean readBoth(int open) {
            if (!readAsk(open)) {
                return false;
            }
            for (int i = 0; i < MOST_BYTES && kind() == AND; i++) {
                at++;
                if (!readAsk(open)) {
                    return false;
                }
                emit(AND, 0);
            }
            return true;
        }

        private boolean readAsk(int open) {
            if (kind() == NOT) {
                if (open >= MOST_OPEN) {
                    return refuse(3);
                }
                at++;
                return readAsk(open + 1) && emit(NOT, 0);
            }
            if (!readSum(open)) {
                return false;
            }
            int sign = kind();
            if (!within(sign, LESS, UNLIKE)) {
                return refuse(1);
            }
            at++;
            return readSum(open) && emit(sign, 0);
        }

        /** No token gives more than one code, so the row is never too short. */
        private boolean emit(int kind, int number) {
            if (codeLength < code.length) {
                code[codeLength] = kind * KIND_UNIT + number;
                codeLength++;
            }
            return true;
        }

        /** The jump that stands there leads to what comes next. */
        private void aim(int jump) {
            if (within(jump, 0, code.length - 1)) {
                code[jump] += codeLength;
            }
        }
    }

    /** Asks a law for its number, by a stack. */
    private static final class Law {
        private static final int LIMIT = 1000000;

        private final Told told;
        // Eight that are open leave at most five numbers each, and the outermost sum two.
        private final int[] stack = new int[64];
        private final int[] names = new int[HAS - LOT + 1];

        Law(Told told) {
            this.told = told;
        }

        int value(Script script, int law, House house, int lot, int bidder) {
            nameAll(house, lot, bidder);
            int top = 0;
            int to = Math.min(script.lawTo[law], script.code.length);
            for (int at = script.lawFrom[law]; at < to; at++) {
                int kind = script.code[at] / KIND_UNIT;
                int number = script.code[at] % KIND_UNIT;
                if (kind == ELSE) {
                    at = Math.max(at, number - 1);
                } else if (kind == NUMBER || within(kind, LOT, HAS)) {
                    if (top >= stack.length) {
                        return 0;
                    }
                    stack[top] = kind == NUMBER ? number : names[kind - LOT];
                    top++;
                } else if (top < 1) {
                    return 0;
                } else if (kind == THEN) {
                    top--;
                    at = stack[top] != 0 ? at : Math.max(at, number - 1);
                } else if (kind == NEGATE || kind == NOT || kind == WORTHS) {
                    stack[top - 1] = turned(kind, stack[top - 1]);
                } else if (top < 2) {
                    return 0;
                } else {
                    top--;
                    stack[top - 1] = joined(kind, stack[top - 1], stack[top]);
                }
            }
            return top < 1 ? 0 : stack[0];
        }

        /** What each name stands for; those of a bidder are 0 without one. */
        private void nameAll(House house, int lot, int bidder) {
            names[LOT - LOT] = lot;
            names[WEEK - LOT] = house.week;
            names[WORTH - LOT] = told.worth[lot];
            names[WEIGHT - LOT] = told.weight[lot];
            names[FLOOR - LOT] = house.floor[lot];
            boolean known = bidder >= 0 && bidder < told.bidders;
            names[WANT - LOT] = known ? house.want[bidder * MOST_LOTS + lot] : 0;
            names[PURSE - LOT] = known ? house.purse[bidder] : 0;
            names[WHO - LOT] = known ? bidder : 0;
            int many = 0;
            for (int i = 0; known && i < told.lots; i++) {
                many += house.where[i] == FIRST_OWNER + bidder ? 1 : 0;
            }
            names[HAS - LOT] = many;
        }

        private int turned(int kind, int a) {
            if (kind == NEGATE) {
                return -a;
            }
            if (kind == NOT) {
                return a == 0 ? 1 : 0;
            }
            return a >= 0 && a < told.lots ? told.worth[a] : 0;
        }

        private static int joined(int kind, long a, long b) {
            long c = 0;
            switch (kind) {
                case PLUS:
                    c = a + b;
                    break;
                case MINUS:
                    c = a - b;
                    break;
                case TIMES:
                    c = a * b;
                    break;
                case OVER:
                    c = b == 0 ? 0 : a / b;
                    break;
                case EVEN:
                    c = b == 0 ? 0 : a - a % b;
                    break;
                case OR:
                    return a != 0 || b != 0 ? 1 : 0;
                case AND:
                    return a != 0 && b != 0 ? 1 : 0;
                case LESS:
                    return a < b ? 1 : 0;
                case AT_MOST:
                    return a <= b ? 1 : 0;
                case MORE:
                    return a > b ? 1 : 0;
                case AT_LEAST:
                    return a >= b ? 1 : 0;
                case LIKE:
                    return a == b ? 1 : 0;
                default:
                    return a != b ? 1 : 0;
            }
            if (c > LIMIT) {
                return LIMIT;
            }
            return c < -LIMIT ? -LIMIT : (int) c;
        }
    }

    /** What is done with lots, in the house itself or in a trial of it. */
    private static final class Sale {
        /** Of the lot that was looked at last; both NONE, if nobody wins it. */
        int winner = NONE;
        int price = NONE;
        private final Told told;
        private final Law law;

        Sale(Told told) {
            this.told = told;
            this.law = new Law(told);
        }

        int reserveFor(House house, int lot) {
            Script script = told.scriptOf(told.ruling);
            if (script == null || !script.rules(RESERVE)) {
                return told.worth[lot] / 2;
            }
            return Math.max(0, Math.min(MOST_RESERVE, law.value(script, RESERVE, house, lot, NONE)));
        }

        int warmsBy(Script script, House house, int lot) {
            if (script == null || !script.rules(WARMS)) {
                return 3;
            }
            return Math.max(0, Math.min(MOST_WARMS, law.value(script, WARMS, house, lot, NONE)));
        }

        int bidOf(House house, int bidder, int lot) {
            Script script = told.scriptOf(told.ruling);
            int bid = script == null || !script.rules(BIDS)
                ? house.want[wantAt(bidder, lot)]
                : law.value(script, BIDS, house, lot, bidder);
            return Math.max(0, Math.min(house.purse[bidder], bid));
        }

        void findWinner(House house, int lot) {
            winner = NONE;
            price = NONE;
            if (!canSell(house, lot)) {
                return;
            }
            int highest = NONE;
            int next = NONE;
            for (int bidder = 0; bidder < told.bidders; bidder++) {
                int bid = bidOf(house, bidder, lot);
                if (bid > highest) {
                    next = highest;
                    highest = bid;
                    winner = bidder;
                } else if (bid > next) {
                    next = bid;
                }
            }
            int reserve = reserveFor(house, lot);
            if (highest < reserve) {
                winner = NONE;
                return;
            }
            price = Math.max(next, reserve);
        }

        /** The lot goes to the winner that was found, if there is one. */
        boolean handOver(House house, int lot) {
            if (winner == NONE) {
                return false;
            }
            house.purse[winner] -= price;
            house.takings = Math.min(MOST_TAKINGS, house.takings + price);
            house.where[lot] = FIRST_OWNER + winner;
            house.writeDown(lot, winner, price);
            return true;
        }

        boolean canSell(House house, int lot) {
            return told.hasLot(lot) && house.where[lot] == IN_HOUSE && told.bidders > 0;
        }

        boolean canCarry(House house, int lot) {
            return told.hasLot(lot) && house.where[lot] == IN_HOUSE
                && house.floor[lot] <= house.saleFloor() && house.floor[lot] < TOP_FLOOR;
        }

        boolean canBurn(House house, int lot) {
            return told.hasLot(lot) && house.where[lot] < BURNT;
        }

        boolean canBuyBack(House house, int lot, int cost) {
            if (!told.hasLot(lot) || house.where[lot] < FIRST_OWNER || !within(cost, 0, MOST_PRICE)) {
                return false;
            }
            int owner = house.where[lot] - FIRST_OWNER;
            return cost <= house.takings && cost >= house.want[wantAt(owner, lot)];
        }

        void buyBack(House house, int lot, int cost) {
            int owner = house.where[lot] - FIRST_OWNER;
            house.takings -= cost;
            house.purse[owner] = Math.min(MOST_PURSE, house.purse[owner] + cost);
            house.where[lot] = WITH_FAMILY;
        }

        int passWeek(House house) {
            int floor = house.saleFloor();
            int sold = 0;
            for (int lot = 0; lot < told.lots; lot++) {
                if (!house.keepsAt(lot, floor) || told.bidders == 0) {
                    continue;
                }
                warm(house, lot);
                findWinner(house, lot);
                if (handOver(house, lot)) {
                    sold++;
                }
            }
            house.week++;
            return sold;
        }

        private void warm(House house, int lot) {
            int draw = house.turnX() % 10;
            if (told.bidders > 0 && draw < warmsBy(told.scriptOf(told.ruling), house, lot)) {
                int at = wantAt(draw % told.bidders, lot);
                house.want[at] = Math.min(MOST_WANT, house.want[at] + 5);
            }
        }

        void drawYear(House house) {
            int x = house.turnX();
            int deed = x % 6;
            if (deed >= 4) {
                if (house.week < LAST_WEEK) {
                    passWeek(house);
                }
                return;
            }
            if (told.lots == 0) {
                return;
            }
            int lot = x % told.lots;
            if (deed == 0) {
                findWinner(house, lot);
                handOver(house, lot);
            } else if (deed == 1 && canCarry(house, lot)) {
                house.floor[lot]++;
            } else if (deed == 2 && x % 8 == 2 && canBurn(house, lot)) {
                house.where[lot] = BURNT;
            } else if (deed == 3 && canBuyBack(house, lot, 20 + x % 30)) {
                buyBack(house, lot, 20 + x % 30);
            }
        }
    }

    /** The best of many orders and sets. */
    private static final class Choices {
        int bestTotal;
        final int[] bestPath = new int[MOST_IN_ORDER];
        int ashSets;
        int inAllSets;
        int inSomeSet;
        int couldBurn;
        private final int[] path = new int[MOST_IN_ORDER];
        private final Told told;
        private final Sale sale;

        Choices(Told told, Sale sale) {
            this.told = told;
            this.sale = sale;
        }

        void findOrder(House trial, int lots) {
            bestTotal = NONE;
            tryOrders(trial, lots, 0, 0);
        }

        /** Goes by lower lots first: of like orders the first one found stays. */
        private void tryOrders(House trial, int lots, int depth, int total) {
            if (lots == 0 || depth >= MOST_IN_ORDER) {
                if (total > bestTotal) {
                    bestTotal = total;
                    System.arraycopy(path, 0, bestPath, 0, MOST_IN_ORDER);
                }
                return;
            }
            for (int lot = 0; lot < told.lots; lot++) {
                if ((lots >> lot & 1) == 0) {
                    continue;
                }
                path[depth] = lot;
                sale.findWinner(trial, lot);
                int winner = sale.winner;
                int price = sale.price;
                int rest = lots & ~(1 << lot);
                if (winner == NONE) {
                    tryOrders(trial, rest, depth + 1, total);
                    continue;
                }
                trial.purse[winner] -= price;
                trial.where[lot] = FIRST_OWNER + winner;
                tryOrders(trial, rest, depth + 1, total + price);
                trial.purse[winner] += price;
                trial.where[lot] = IN_HOUSE;
            }
        }

        /** The lowest of the best sets of bundles, none of them of one bidder. */
        int bestBundles(int without) {
            int best = 0;
            int most = 0;
            for (int set = 1; set < 1 << told.bundles; set++) {
                int prices = pricesOf(set, NONE);
                if (prices > most && goTogether(set, without)) {
                    most = prices;
                    best = set;
                }
            }
            return best;
        }

        private boolean goTogether(int set, int without) {
            int lots = 0;
            int bidders = 0;
            for (int i = 0; i < told.bundles; i++) {
                if ((set >> i & 1) == 0) {
                    continue;
                }
                int bidder = 1 << told.bundleBidder[i];
                if (told.bundleBidder[i] == without || (lots & told.bundleLots[i]) != 0 || (bidders & bidder) != 0) {
                    return false;
                }
                lots |= told.bundleLots[i];
                bidders |= bidder;
            }
            return true;
        }

        int pricesOf(int set, int without) {
            int sum = 0;
            for (int i = 0; i < told.bundles; i++) {
                if ((set >> i & 1) != 0 && told.bundleBidder[i] != without) {
                    sum += told.bundlePrice[i];
                }
            }
            return sum;
        }

        /**
         * Sets that can be kept are such that taking the dearest that still fits
         * is best; lower lots first of like ones gives the lowest set, and lots
         * without worth are never taken.
         */
        int bestKept(House house, int k) {
            int set = 0;
            int tried = 0;
            for (int i = 0; i < told.lots; i++) {
                int lot = dearestUntried(house, tried);
                if (lot == NONE) {
                    return set;
                }
                tried |= 1 << lot;
                if (canBeKept(house, set | 1 << lot, k)) {
                    set |= 1 << lot;
                }
            }
            return set;
        }

        private int dearestUntried(House house, int tried) {
            int best = NONE;
            int most = 0;
            for (int lot = 0; lot < told.lots; lot++) {
                boolean can = (tried >> lot & 1) == 0 && house.where[lot] == IN_HOUSE
                    && house.floor[lot] >= house.saleFloor();
                if (can && told.worth[lot] > most) {
                    most = told.worth[lot];
                    best = lot;
                }
            }
            return best;
        }

        /** By the end of each week no more may be due than can be taken. */
        private boolean canBeKept(House house, int set, int k) {
            for (int weeks = 1; weeks <= FLOORS; weeks++) {
                int due = 0;
                for (int lot = 0; lot < told.lots; lot++) {
                    if ((set >> lot & 1) != 0 && house.floor[lot] - house.saleFloor() + 1 <= weeks) {
                        due++;
                    }
                }
                if (due > k * weeks) {
                    return false;
                }
            }
            return true;
        }

        void findAshes(House house, int weight, int many) {
            ashSets = 0;
            inAllSets = (1 << told.lots) - 1;
            inSomeSet = 0;
            couldBurn = 0;
            for (int lot = 0; lot < told.lots; lot++) {
                if (house.where[lot] == IN_HOUSE || house.where[lot] == BURNT) {
                    couldBurn |= 1 << lot;
                }
            }
            tryAshes(0, weight, many, 0);
        }

        private void tryAshes(int lot, int weight, int many, int set) {
            if (weight < 0 || many < 0) {
                return;
            }
            if (lot >= told.lots) {
                if (weight == 0 && many == 0) {
                    ashSets++;
                    inAllSets &= set;
                    inSomeSet |= set;
                }
                return;
            }
            tryAshes(lot + 1, weight, many, set);
            if ((couldBurn >> lot & 1) != 0) {
                tryAshes(lot + 1, weight - told.weight[lot], many - 1, set | 1 << lot);
            }
        }
    }
}
