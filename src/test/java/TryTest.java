/** Promises 16 and 17: prices from elsewhere. */
public final class TryTest {
    private static final Class<IllegalArgumentException> ARGUMENT = IllegalArgumentException.class;
    private static final Class<IllegalStateException> STATE = IllegalStateException.class;
    private static final Class<IndexOutOfBoundsException> INDEX = IndexOutOfBoundsException.class;

    public static void main(String[] args) {
        wrongPrices();
        triedPricesAreNoChange();
        fairOrNot();
        leastTooDearSet();
        nearlyFair();
        onlyGoodsThatThereAre();
        Check.end();
    }

    /** Tries prices, given by pairs of above and below. */
    private static void tested(MarketDesk x, int due, int... prices) {
        for (int i = 0; i < prices.length; i += 2) {
            x.tryPrice(i / 2, prices[i], prices[i + 1]);
        }
        Check.due("test of " + java.util.Arrays.toString(prices), due, () -> x.test());
    }

    private static void wrongPrices() {
        MarketDesk x = new MarketDesk();
        Check.thrown("test of a new object", STATE, () -> x.test());
        for (int bad : new int[] {-1, 3, Integer.MIN_VALUE, Integer.MAX_VALUE}) {
            Check.thrown("try for good " + bad, INDEX, () -> x.tryPrice(bad, 1, 1));
            Check.thrown("wrong try for good " + bad, INDEX, () -> x.tryPrice(bad, 0, 0));
        }
        for (int bad : new int[] {0, -1, 100001, Integer.MIN_VALUE, Integer.MAX_VALUE}) {
            Check.thrown("try above " + bad, ARGUMENT, () -> x.tryPrice(0, bad, 1));
            Check.thrown("try below " + bad, ARGUMENT, () -> x.tryPrice(0, 1, bad));
        }
        Check.done("try for a good that is not there", () -> x.tryPrice(2, 100000, 100000));
        Check.thrown("a try is nothing to undo", STATE, () -> x.undo());
        x.buyer(1);
        x.good();
        x.value(0, 0, 1);
        Check.due("refused tries change nothing", 0, () -> x.test());
    }

    private static void triedPricesAreNoChange() {
        MarketDesk x = Desks.ready(new int[] {6}, new int[][] {{3}});
        x.solve();
        x.tryPrice(0, 6, 1);
        Check.due("what was solved stays", 6, () -> x.price(0, false));
        Check.due("test", 0, () -> x.test());
        Check.due("what was solved stays", 6, () -> x.price(0, false));
        x.money(0, 5);
        Check.due("the tried price stays", -1, () -> x.test());
        x.undo();
        Check.due("the tried price stays", 0, () -> x.test());
        x.good();
        x.value(0, 1, 1);
        x.tryPrice(0, 2, 1);
        x.tryPrice(1, 4, 1);
        x.join(0, 1);
        x.tryPrice(0, 6, 1);
        Check.due("joined", 0, () -> x.test());
        x.undo();
        x.tryPrice(0, 2, 1);
        Check.due("the tried price of good 1 stays", 2, () -> x.test());
    }

    private static void fairOrNot() {
        MarketDesk x = Desks.ready(new int[] {6, 20}, new int[][] {{3, 2, 0}, {1, 0, 5}});
        tested(x, 0, 39, 10, 26, 10, 39, 2);
        tested(x, 0, 3900, 1000, 13, 5, 19500, 1000);
        tested(x, -1, 39, 10, 26, 10, 39, 1);
        tested(x, -1, 39, 10, 26, 10, 39, 3);
        x.solve();
        tested(x, 0, (int) x.price(0, false), (int) x.price(0, true), (int) x.price(1, false), (int) x.price(1, true),
            (int) x.price(2, false), (int) x.price(2, true));
    }

    private static void leastTooDearSet() {
        int[][] own = {{9, 1, 1}, {1, 9, 1}, {1, 1, 9}};
        MarketDesk x = Desks.ready(new int[] {5, 5, 5}, own);
        tested(x, 0, 5, 1, 5, 1, 5, 1);
        tested(x, 1, 6, 1, 5, 1, 4, 1);
        tested(x, 2, 5, 1, 6, 1, 4, 1);
        tested(x, 4, 5, 1, 4, 1, 6, 1);
        tested(x, 1, 6, 1, 6, 1, 3, 1);
        tested(x, 2, 3, 1, 6, 1, 6, 1);
        // Each of two goods alone can be paid for, both together can't.
        int[][] shared = {{1, 1, 0}, {1, 1, 0}, {0, 0, 1}};
        MarketDesk y = Desks.ready(new int[] {5, 5, 5}, shared);
        tested(y, 3, 6, 1, 6, 1, 3, 1);
        tested(y, 4, 4, 1, 4, 1, 7, 1);
        tested(y, 1, 12, 1, 1, 1, 2, 1);
        tested(y, 2, 1, 1, 12, 1, 2, 1);
        int[][] outer = {{1, 0, 1}, {0, 1, 0}, {1, 0, 1}};
        tested(Desks.ready(new int[] {5, 5, 5}, outer), 5, 6, 1, 3, 1, 6, 1);
        int[][] late = {{1, 0, 0}, {0, 1, 1}, {0, 1, 1}};
        tested(Desks.ready(new int[] {5, 5, 5}, late), 6, 3, 1, 6, 1, 6, 1);
        // Nobody likes good 0 at its price, so that good 0 is too dear by itself.
        tested(Desks.ready(new int[] {5}, new int[][] {{1, 9}}), 1, 1, 1, 4, 1);
    }

    private static void nearlyFair() {
        MarketDesk x = Desks.ready(new int[] {1, 1}, new int[][] {{1, 0}, {0, 1}});
        tested(x, 1, 100000, 99999, 99998, 99999);
        tested(x, 2, 99998, 99999, 100000, 99999);
        tested(x, -1, 100000, 99999, 99999, 100000);
        tested(x, -1, 99999, 100000, 1, 1);
        tested(x, 0, 99999, 99999, 100000, 100000);
        MarketDesk y = Desks.ready(new int[] {20, 20, 20}, new int[][] {{9, 9, 9}, {9, 9, 9}, {9, 9, 9}});
        tested(y, -1, 99991, 99989, 99971, 99961, 99929, 99923);
        tested(y, -1, 100000, 1, 100000, 1, 100000, 1);
        tested(y, -1, 1, 100000, 1, 99999, 1, 99998);
        tested(y, 0, 99980, 4999, 99960, 4998, 99940, 4997);
        tested(y, 1, 99981, 4999, 99979, 4999, 20, 1);
    }

    private static void onlyGoodsThatThereAre() {
        MarketDesk x = Desks.ready(new int[] {7}, new int[][] {{1}});
        tested(x, 0, 7, 1, 5, 1, 5, 1);
        tested(x, -1, 2, 1, 5, 1);
    }
}
