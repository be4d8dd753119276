/**
 * A market in which buyers spend all their money on what is best for its price.
 * The numbers in the comments ("promise 7") are those of the document.
 */
public final class MarketDesk {
    private static final int MOST = 3;
    private static final int MOST_MONEY = 20;
    private static final int MOST_VALUE = 9;
    private static final int MOST_TRIED = 100000;
    private static final int MOST_UNDONE = 8;
    private static final int NONE = -1;

    /** A ring: the market of now stands at {@link #now}, those before the latest changes behind it. */
    private final Market[] ring = new Market[MOST_UNDONE + 1];
    private final Prices tried = new Prices();
    private final Demand demand = new Demand();
    private final Search search = new Search();
    private int now = 0;
    private int undoable = 0;

    /** Promise 1. */
    public MarketDesk() {
        for (int i = 0; i <= MOST_UNDONE; i++) {
            ring[i] = new Market();
        }
    }

    /** Promise 2. */
    public int buyer(int money) throws IllegalArgumentException, UnsupportedOperationException {
        needWithin(money, 1, MOST_MONEY);
        if (ring[now].buyers >= MOST) {
            throw new UnsupportedOperationException("there are three buyers");
        }
        Market market = begunChange();
        int number = market.buyers;
        market.buyers = number + 1;
        market.purse[number] = money;
        return number;
    }

    /** Promise 3. */
    public int good() throws UnsupportedOperationException {
        if (ring[now].goods >= MOST) {
            throw new UnsupportedOperationException("there are three goods");
        }
        Market market = begunChange();
        int number = market.goods;
        market.goods = number + 1;
        return number;
    }

    /** Promise 4. */
    public void money(int buyer, int money) throws IndexOutOfBoundsException, IllegalArgumentException {
        needBuyer(buyer);
        needWithin(money, 1, MOST_MONEY);
        begunChange().purse[buyer] = money;
    }

    /** Promise 5. */
    public void value(int buyer, int good, int value) throws IndexOutOfBoundsException, IllegalArgumentException {
        needBuyer(buyer);
        needGood(good);
        needWithin(value, 0, MOST_VALUE);
        begunChange().worth[cell(buyer, good)] = value;
    }

    /** Promise 6. */
    public void join(int a, int b) throws IndexOutOfBoundsException, IllegalArgumentException {
        needGood(a);
        needGood(b);
        if (a >= b) {
            throw new IndexOutOfBoundsException("the first good is not before the second");
        }
        if (ring[now].mostWorthTogether(a, b) > MOST_VALUE) {
            throw new IllegalArgumentException("a sum of values is above 9");
        }
        if (!ring[now].inProportion(a, b)) {
            throw new IllegalArgumentException("the values are not in proportion");
        }
        begunChange().merge(a, b);
    }

    /** Promise 7. */
    public int undo() throws IllegalStateException {
        if (undoable == 0) {
            throw new IllegalStateException("there is nothing to undo");
        }
        now = now == 0 ? MOST_UNDONE : now - 1;
        undoable--;
        return undoable;
    }

    /** Promise 8. */
    public int count(boolean goods) {
        return goods ? ring[now].goods : ring[now].buyers;
    }

    /** Promise 9. */
    public int told(int buyer, int good) throws IndexOutOfBoundsException {
        needBuyer(buyer);
        if (good == NONE) {
            return ring[now].purse[buyer];
        }
        needGood(good);
        return ring[now].worth[cell(buyer, good)];
    }

    /** Promise 10. */
    public int ready() {
        Market market = ring[now];
        if (market.buyers == 0 || market.goods == 0) {
            return 1;
        }
        int wantedByAll = 0;
        for (int b = 0; b < market.buyers; b++) {
            int wanted = market.wantedBy(b);
            if (wanted == 0) {
                return 10 + b;
            }
            wantedByAll |= wanted;
        }
        for (int g = 0; g < market.goods; g++) {
            if (!has(wantedByAll, g)) {
                return 20 + g;
            }
        }
        return 0;
    }

    /** Promise 11. */
    public void solve() throws IllegalStateException {
        needReady();
        Market market = ring[now];
        if (!market.solved && search.finds(market, demand)) {
            market.unit = demand.unit;
            demand.divideInto(market.share);
            market.solved = true;
        }
    }

    /** Promise 12. */
    public long price(int good, boolean below) throws IllegalStateException, IndexOutOfBoundsException {
        needSolved();
        needGood(good);
        Prices prices = ring[now].prices;
        return lowest(prices.above[good], prices.below[good], below);
    }

    /** Promise 13. */
    public long best(int buyer, int what, boolean below) throws IllegalStateException, IndexOutOfBoundsException {
        needSolved();
        needBuyer(buyer);
        needWhat(what);
        Market market = ring[now];
        demand.look(market, market.prices);
        int good = firstOf(demand.liked[buyer]);
        long times = what == 1 ? market.purse[buyer] : 1;
        long above = times * market.worth[cell(buyer, good)] * market.prices.below[good];
        return lowest(above, market.prices.above[good], below);
    }

    /** Promise 14. */
    public boolean likes(int buyer, int good) throws IllegalStateException, IndexOutOfBoundsException {
        needSolved();
        needBuyer(buyer);
        needGood(good);
        demand.look(ring[now], ring[now].prices);
        return has(demand.liked[buyer], good);
    }

    /** Promise 15. */
    public long spent(int buyer, int good, int what, boolean below)
            throws IllegalStateException, IndexOutOfBoundsException {
        needSolved();
        needBuyer(buyer);
        needGood(good);
        needWhat(what);
        Market market = ring[now];
        long share = market.share[cell(buyer, good)];
        if (what == 0) {
            return lowest(share, market.unit, below);
        }
        return lowest(share * market.prices.below[good], market.unit * market.prices.above[good], below);
    }

    /** Promise 16. */
    public void tryPrice(int good, int above, int below) throws IndexOutOfBoundsException, IllegalArgumentException {
        if (good < 0 || good >= MOST) {
            throw new IndexOutOfBoundsException("no price can be tried for such a good");
        }
        needWithin(above, 1, MOST_TRIED);
        needWithin(below, 1, MOST_TRIED);
        tried.above[good] = above;
        tried.below[good] = below;
    }

    /** Promise 17. */
    public int test() throws IllegalStateException {
        needReady();
        demand.look(ring[now], tried);
        // Where the sums agree, prices are fair just when no set is too dear (maximal flow, minimal cut).
        return demand.sumsAgree() ? demand.firstTooDear() : -1;
    }

    /** To be called only when nothing can refuse the change any more: it makes the old market one to undo to. */
    private Market begunChange() {
        Market before = ring[now];
        now = now == MOST_UNDONE ? 0 : now + 1;
        undoable = Math.min(undoable + 1, MOST_UNDONE);
        ring[now].takeOver(before);
        return ring[now];
    }

    private void needBuyer(int buyer) throws IndexOutOfBoundsException {
        if (buyer < 0 || buyer >= ring[now].buyers) {
            throw new IndexOutOfBoundsException("there is no such buyer");
        }
    }

    private void needGood(int good) throws IndexOutOfBoundsException {
        if (good < 0 || good >= ring[now].goods) {
            throw new IndexOutOfBoundsException("there is no such good");
        }
    }

    private static void needWhat(int what) throws IndexOutOfBoundsException {
        if (what != 0 && what != 1) {
            throw new IndexOutOfBoundsException("what is not 0 or 1");
        }
    }

    private static void needWithin(int number, int least, int most) throws IllegalArgumentException {
        if (number < least || number > most) {
            throw new IllegalArgumentException("a number is out of its bounds");
        }
    }

    private void needReady() throws IllegalStateException {
        if (ready() != 0) {
            throw new IllegalStateException("the market is not ready");
        }
    }

    private void needSolved() throws IllegalStateException {
        if (!ring[now].solved) {
            throw new IllegalStateException("the market is not solved");
        }
    }

    /** Where a buyer's number for a good stands in a row of all such numbers. */
    private static int cell(int buyer, int good) {
        return buyer * MOST + good;
    }

    private static boolean has(int set, int good) {
        return ((set >> good) & 1) != 0;
    }

    private static int firstOf(int set) {
        int good = 0;
        while (good < MOST - 1 && !has(set, good)) {
            good++;
        }
        return good;
    }

    /** What stands above or below the line of a fraction in lowest terms. */
    private static long lowest(long above, long below, boolean wantsBelow) {
        long divisor = Math.max(1, commonDivisor(above, below));
        return (wantsBelow ? below : above) / divisor;
    }

    private static long commonDivisor(long a, long b) {
        long larger = a;
        long smaller = b;
        // Euclid's way takes less than a hundred steps for any two longs.
        for (int step = 0; step < 100 && smaller != 0; step++) {
            long rest = larger % smaller;
            larger = smaller;
            smaller = rest;
        }
        return larger;
    }

    /** A price for each good, as above / below; not always in lowest terms. */
    private static final class Prices {
        final long[] above = {1, 1, 1};
        final long[] below = {1, 1, 1};
    }

    /** The market at one time, with its prices and its division if it is solved. */
    private static final class Market {
        int buyers = 0;
        int goods = 0;
        final int[] purse = new int[MOST];
        /** 0 for buyers and goods that there are not, so that new ones begin with it. */
        final int[] worth = new int[MOST * MOST];
        boolean solved = false;
        final Prices prices = new Prices();
        /** What each buyer spends on each good, in parts of which unit make 1. */
        final long[] share = new long[MOST * MOST];
        long unit = 1;

        void takeOver(Market other) {
            buyers = other.buyers;
            goods = other.goods;
            System.arraycopy(other.purse, 0, purse, 0, MOST);
            System.arraycopy(other.worth, 0, worth, 0, MOST * MOST);
            solved = false;
        }

        /** The set of the goods for which a buyer has a value above 0. */
        int wantedBy(int buyer) {
            int set = 0;
            for (int g = 0; g < goods; g++) {
                if (worth[cell(buyer, g)] > 0) {
                    set |= 1 << g;
                }
            }
            return set;
        }

        int mostWorthTogether(int a, int b) {
            int most = 0;
            for (int i = 0; i < buyers; i++) {
                most = Math.max(most, worth[cell(i, a)] + worth[cell(i, b)]);
            }
            return most;
        }

        boolean inProportion(int a, int b) {
            for (int i = 0; i < buyers; i++) {
                for (int j = 0; j < i; j++) {
                    if (worth[cell(i, a)] * worth[cell(j, b)] != worth[cell(i, b)] * worth[cell(j, a)]) {
                        return false;
                    }
                }
            }
            return true;
        }

        void merge(int a, int b) {
            for (int i = 0; i < buyers; i++) {
                worth[cell(i, a)] += worth[cell(i, b)];
                for (int g = b; g < goods - 1; g++) {
                    worth[cell(i, g)] = worth[cell(i, g + 1)];
                }
                worth[cell(i, goods - 1)] = 0;
            }
            goods--;
        }
    }

    /**
     * What the buyers of a ready market like at some prices. Money and prices are counted in parts of
     * which unit make 1, so that they are whole: unit is at most 10^15 for the prices that can be tried,
     * a price at most 10^15 and all money at most 6 * 10^16 parts, which a long holds.
     */
    private static final class Demand {
        int buyers = 0;
        int goods = 0;
        long unit = 1;
        final long[] cost = new long[MOST];
        final long[] funds = new long[MOST];
        final int[] liked = new int[MOST];

        void look(Market market, Prices prices) {
            buyers = market.buyers;
            goods = market.goods;
            unit = productButFor(prices, NONE);
            for (int g = 0; g < goods; g++) {
                cost[g] = prices.above[g] * productButFor(prices, g);
            }
            for (int b = 0; b < buyers; b++) {
                funds[b] = market.purse[b] * unit;
                liked[b] = likedBy(market, b);
            }
        }

        private long productButFor(Prices prices, int good) {
            long product = 1;
            for (int g = 0; g < goods; g++) {
                if (g != good) {
                    product *= prices.below[g];
                }
            }
            return product;
        }

        private int likedBy(Market market, int buyer) {
            int top = 0;
            for (int g = 1; g < goods; g++) {
                if (compareGoods(market, buyer, g, top) > 0) {
                    top = g;
                }
            }
            int set = 0;
            for (int g = 0; g < goods; g++) {
                if (compareGoods(market, buyer, g, top) == 0) {
                    set |= 1 << g;
                }
            }
            return set;
        }

        /** Above 0 when good a has more value for its price than good b. */
        private int compareGoods(Market market, int buyer, int a, int b) {
            return Long.compare(market.worth[cell(buyer, a)] * cost[b], market.worth[cell(buyer, b)] * cost[a]);
        }

        boolean sumsAgree() {
            long money = 0;
            for (int b = 0; b < buyers; b++) {
                money += funds[b];
            }
            return money == costOf((1 << goods) - 1);
        }

        /** The least set that is too dear, 0 when none is. */
        int firstTooDear() {
            for (int set = 1; set < 1 << goods; set++) {
                if (costOf(set) > fundsFor(set)) {
                    return set;
                }
            }
            return 0;
        }

        private long costOf(int set) {
            long sum = 0;
            for (int g = 0; g < goods; g++) {
                if (has(set, g)) {
                    sum += cost[g];
                }
            }
            return sum;
        }

        private long fundsFor(int set) {
            long sum = 0;
            for (int b = 0; b < buyers; b++) {
                if ((liked[b] & set) != 0) {
                    sum += funds[b];
                }
            }
            return sum;
        }

        /** Finds the division for fair prices; it uses up the costs, funds and likings. */
        void divideInto(long[] share) {
            for (int b = 0; b < buyers; b++) {
                for (int g = 0; g < goods; g++) {
                    share[cell(b, g)] = has(liked[b], g) ? spendMost(b, g) : 0;
                }
            }
        }

        /**
         * The most that a buyer can spend on a good such that what is left can still be divided:
         * no other set that the buyer still likes may become too dear by it.
         */
        private long spendMost(int buyer, int good) {
            liked[buyer] -= 1 << good;
            long most = Math.min(funds[buyer], cost[good]);
            for (int set = 1; set < 1 << goods; set++) {
                if (!has(set, good) && (liked[buyer] & set) != 0) {
                    most = Math.min(most, fundsFor(set) - costOf(set));
                }
            }
            funds[buyer] -= most;
            cost[good] -= most;
            return most;
        }
    }

    /**
     * Finds the prices of a ready market. In some way to divide the money at the prices, buyers and the
     * goods that they buy hang together without a ring. In each part that hangs together, the values then
     * tell the prices in proportion, and the money tells their sum. So every way without a ring is tried,
     * until its prices are fair.
     */
    private static final class Search {
        /** For each good the set of those that hang together with it. */
        final int[] group = new int[MOST];
        /** To these the prices in one group are in proportion: at most 81 each. */
        final long[] weight = new long[MOST];

        boolean finds(Market market, Demand demand) {
            int wanted = wantedByAll(market);
            int ways = 1 << (MOST * market.buyers);
            for (int way = 0; way < ways; way++) {
                if ((way & ~wanted) == 0 && coversAll(market, way) && linksAll(market, way)) {
                    tellPrices(market, way);
                    demand.look(market, market.prices);
                    if (demand.firstTooDear() == 0) {
                        return true;
                    }
                }
            }
            return false;
        }

        /** The set of goods that a buyer buys in a way: a way holds these sets, MOST bits for each buyer. */
        private static int boughtBy(int buyer, int way) {
            return (way >> (MOST * buyer)) & ((1 << MOST) - 1);
        }

        /** The way in which everyone buys all that is of value to him. */
        private static int wantedByAll(Market market) {
            int way = 0;
            for (int b = 0; b < market.buyers; b++) {
                way |= market.wantedBy(b) << (MOST * b);
            }
            return way;
        }

        /** Whether everyone buys something, and everything is bought. */
        private static boolean coversAll(Market market, int way) {
            int sold = 0;
            for (int b = 0; b < market.buyers; b++) {
                int bought = boughtBy(b, way);
                if (bought == 0) {
                    return false;
                }
                sold |= bought;
            }
            return sold == (1 << market.goods) - 1;
        }

        /** Makes the groups and weights of a way; false when there is a ring in it. */
        private boolean linksAll(Market market, int way) {
            for (int g = 0; g < market.goods; g++) {
                group[g] = 1 << g;
                weight[g] = 1;
            }
            for (int b = 0; b < market.buyers; b++) {
                int bought = boughtBy(b, way);
                int first = firstOf(bought);
                for (int g = first + 1; g < market.goods; g++) {
                    if (has(bought, g) && !links(market, b, first, g)) {
                        return false;
                    }
                }
            }
            return true;
        }

        /** Makes one group of the groups of two goods that a buyer buys; false when they are one already. */
        private boolean links(Market market, int buyer, int a, int b) {
            if (has(group[a], b)) {
                return false;
            }
            int groupA = group[a];
            int groupB = group[b];
            long timesA = market.worth[cell(buyer, a)] * weight[b];
            long timesB = market.worth[cell(buyer, b)] * weight[a];
            for (int g = 0; g < market.goods; g++) {
                if (has(groupA | groupB, g)) {
                    weight[g] *= has(groupA, g) ? timesA : timesB;
                    group[g] = groupA | groupB;
                }
            }
            return true;
        }

        private void tellPrices(Market market, int way) {
            for (int g = 0; g < market.goods; g++) {
                market.prices.above[g] = moneyFor(market, way, group[g]) * weight[g];
                market.prices.below[g] = weightOf(market, group[g]);
            }
        }

        private static long moneyFor(Market market, int way, int set) {
            long sum = 0;
            for (int b = 0; b < market.buyers; b++) {
                if ((boughtBy(b, way) & set) != 0) {
                    sum += market.purse[b];
                }
            }
            return sum;
        }

        private long weightOf(Market market, int set) {
            long sum = 0;
            for (int g = 0; g < market.goods; g++) {
                if (has(set, g)) {
                    sum += weight[g];
                }
            }
            return sum;
        }
    }
}
