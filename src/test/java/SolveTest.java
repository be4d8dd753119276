/** Promises 11 to 15: the prices and the division, on markets whose answers were found by hand. */
public final class SolveTest {
    private static final Class<IllegalStateException> STATE = IllegalStateException.class;
    private static final Class<IndexOutOfBoundsException> INDEX = IndexOutOfBoundsException.class;

    public static void main(String[] args) {
        oneBuyer();
        eachHisOwn();
        moreBuyersThanGoods();
        divisionPrefersEarlierBuyersAndGoods();
        divisionLeavesEnoughForOthers();
        likedButNotBought();
        zeroIsWhole();
        notSolved();
        wrongNumbers();
        Check.end();
    }

    private static MarketDesk solved(int[] money, int[][] values) {
        MarketDesk x = Desks.ready(money, values);
        x.solve();
        return x;
    }

    private static void price(MarketDesk x, int good, String due) {
        Check.due("price of " + good, due, () -> x.price(good, false) + "/" + x.price(good, true));
    }

    private static void best(MarketDesk x, int buyer, String due, String dueTimesMoney) {
        Check.due("best of " + buyer, due, () -> x.best(buyer, 0, false) + "/" + x.best(buyer, 0, true));
        Check.due("all of " + buyer, dueTimesMoney, () -> x.best(buyer, 1, false) + "/" + x.best(buyer, 1, true));
    }

    private static void spent(MarketDesk x, int buyer, int good, String due, String duePart) {
        String who = buyer + " on " + good;
        Check.due("spent by " + who, due,
            () -> x.spent(buyer, good, 0, false) + "/" + x.spent(buyer, good, 0, true));
        Check.due("part spent by " + who, duePart,
            () -> x.spent(buyer, good, 1, false) + "/" + x.spent(buyer, good, 1, true));
    }

    private static void likes(MarketDesk x, int buyer, String due) {
        Check.due("likings of " + buyer, due, () -> {
            StringBuilder text = new StringBuilder();
            for (int g = 0; g < x.count(true); g++) {
                text.append(x.likes(buyer, g) ? '1' : '0');
            }
            return text;
        });
    }

    private static void oneBuyer() {
        MarketDesk x = solved(new int[] {20}, new int[][] {{9, 8, 7}});
        price(x, 0, "15/2");
        price(x, 1, "20/3");
        price(x, 2, "35/6");
        best(x, 0, "6/5", "24/1");
        likes(x, 0, "111");
        spent(x, 0, 2, "35/6", "1/1");
        Check.done("solve again", () -> x.solve());
        price(x, 2, "35/6");
    }

    private static void eachHisOwn() {
        MarketDesk x = solved(new int[] {3, 5, 7}, new int[][] {{9, 1, 1}, {1, 9, 1}, {1, 1, 9}});
        price(x, 0, "3/1");
        price(x, 1, "5/1");
        price(x, 2, "7/1");
        best(x, 1, "9/5", "9/1");
        likes(x, 0, "100");
        likes(x, 2, "001");
        spent(x, 1, 1, "5/1", "1/1");
        spent(x, 1, 0, "0/1", "0/1");
    }

    private static void moreBuyersThanGoods() {
        MarketDesk x = solved(new int[] {2, 3, 4}, new int[][] {{1}, {5}, {9}});
        price(x, 0, "9/1");
        best(x, 0, "1/9", "2/9");
        best(x, 2, "1/1", "4/1");
        spent(x, 0, 0, "2/1", "2/9");
        spent(x, 1, 0, "3/1", "1/3");
        spent(x, 2, 0, "4/1", "4/9");
    }

    private static void divisionPrefersEarlierBuyersAndGoods() {
        MarketDesk x = solved(new int[] {5, 6, 4}, new int[][] {{1, 1, 1}, {1, 1, 1}, {1, 1, 1}});
        price(x, 0, "5/1");
        spent(x, 0, 0, "5/1", "1/1");
        spent(x, 0, 1, "0/1", "0/1");
        spent(x, 1, 0, "0/1", "0/1");
        spent(x, 1, 1, "5/1", "1/1");
        spent(x, 1, 2, "1/1", "1/5");
        spent(x, 2, 2, "4/1", "4/5");
        likes(x, 2, "111");
    }

    private static void divisionLeavesEnoughForOthers() {
        // Good 1 is liked by buyer 0 and, too poor for all of it, buyer 1: buyer 0 must leave money for it.
        MarketDesk x = solved(new int[] {10, 2}, new int[][] {{2, 2}, {0, 5}});
        price(x, 0, "6/1");
        price(x, 1, "6/1");
        spent(x, 0, 0, "6/1", "1/1");
        spent(x, 0, 1, "4/1", "2/3");
        spent(x, 1, 1, "2/1", "1/3");

        // Without buyer 2, buyer 0 would spend all on good 0; buyers 1 and 2 can't pay for goods 1 and 2 alone.
        MarketDesk y = solved(new int[] {6, 3, 3}, new int[][] {{1, 1, 1}, {1, 1, 0}, {1, 0, 1}});
        price(y, 0, "4/1");
        spent(y, 0, 0, "4/1", "1/1");
        spent(y, 0, 1, "1/1", "1/4");
        spent(y, 0, 2, "1/1", "1/4");
        spent(y, 1, 1, "3/1", "3/4");
        spent(y, 2, 2, "3/1", "3/4");

        MarketDesk z = solved(new int[] {4, 4, 4}, new int[][] {{1, 1, 1}, {1, 1, 0}, {1, 1, 0}});
        price(z, 2, "4/1");
        spent(z, 0, 0, "0/1", "0/1");
        spent(z, 0, 1, "0/1", "0/1");
        spent(z, 0, 2, "4/1", "1/1");
        spent(z, 1, 0, "4/1", "1/1");
        spent(z, 2, 1, "4/1", "1/1");
        likes(z, 0, "111");
    }

    private static void likedButNotBought() {
        MarketDesk x = solved(new int[] {2, 4}, new int[][] {{1, 2}, {1, 2}});
        price(x, 0, "2/1");
        price(x, 1, "4/1");
        likes(x, 0, "11");
        likes(x, 1, "11");
        spent(x, 0, 0, "2/1", "1/1");
        spent(x, 0, 1, "0/1", "0/1");
        spent(x, 1, 0, "0/1", "0/1");
        spent(x, 1, 1, "4/1", "1/1");
    }

    private static void zeroIsWhole() {
        MarketDesk x = solved(new int[] {7, 20}, new int[][] {{9, 0, 8}, {0, 7, 0}});
        price(x, 0, "63/17");
        price(x, 2, "56/17");
        spent(x, 1, 0, "0/1", "0/1");
        spent(x, 0, 1, "0/1", "0/1");
        likes(x, 0, "101");
        likes(x, 1, "010");
    }

    private static void notSolved() {
        MarketDesk x = new MarketDesk();
        Check.thrown("solve a new object", STATE, () -> x.solve());
        x.buyer(1);
        x.good();
        Check.thrown("solve before ready", STATE, () -> x.solve());
        x.value(0, 0, 1);
        Check.thrown("price before solve", STATE, () -> x.price(0, false));
        Check.thrown("best before solve", STATE, () -> x.best(0, 0, false));
        Check.thrown("likes before solve", STATE, () -> x.likes(0, 0));
        Check.thrown("spent before solve", STATE, () -> x.spent(0, 0, 0, false));
        Check.thrown("price of no good before solve", STATE, () -> x.price(5, false));
        Check.thrown("best of no buyer before solve", STATE, () -> x.best(5, 5, false));
        Check.thrown("likes of no buyer before solve", STATE, () -> x.likes(-1, 5));
        Check.thrown("spent of no buyer before solve", STATE, () -> x.spent(-1, 5, 7, false));
        x.solve();
        Check.due("price after solve", 1, () -> x.price(0, true));
    }

    private static void wrongNumbers() {
        MarketDesk x = solved(new int[] {1, 2}, new int[][] {{1, 1}, {1, 1}});
        for (int bad : new int[] {-1, 2, 3, Integer.MIN_VALUE, Integer.MAX_VALUE}) {
            Check.thrown("price of " + bad, INDEX, () -> x.price(bad, true));
            Check.thrown("best of " + bad, INDEX, () -> x.best(bad, 0, true));
            Check.thrown("best with what " + bad, INDEX, () -> x.best(0, bad, true));
            Check.thrown("likes of buyer " + bad, INDEX, () -> x.likes(bad, 0));
            Check.thrown("likes of good " + bad, INDEX, () -> x.likes(0, bad));
            Check.thrown("spent of buyer " + bad, INDEX, () -> x.spent(bad, 0, 0, true));
            Check.thrown("spent on good " + bad, INDEX, () -> x.spent(0, bad, 0, true));
            Check.thrown("spent with what " + bad, INDEX, () -> x.spent(0, 0, bad, true));
        }
        price(x, 0, "3/2");
    }
}
