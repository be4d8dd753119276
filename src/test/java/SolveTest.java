/**
 * Promises 11 to 15 in ordinary use: the prices and the division, on markets whose answers were found by hand.
 * SolveEdgeTest has the edges.
 */
public final class SolveTest {
    public static void main(String[] args) {
        oneBuyer();
        eachHisOwn();
        moreBuyersThanGoods();
        divisionPrefersEarlierBuyersAndGoods();
        divisionLeavesEnoughForOthers();
        likedButNotBought();
        Check.end();
    }

    private static void oneBuyer() {
        MarketDesk x = Desks.solved(new int[] {20}, new int[][] {{9, 8, 7}});
        Answers.duePrice(x, 0, "15/2");
        Answers.duePrice(x, 1, "20/3");
        Answers.duePrice(x, 2, "35/6");
        Answers.dueBest(x, 0, "6/5", "24/1");
        Answers.dueLikes(x, 0, "111");
        Answers.dueSpent(x, 0, 2, "35/6", "1/1");
        Check.done("solve again", () -> x.solve());
        Answers.duePrice(x, 2, "35/6");
    }

    private static void eachHisOwn() {
        MarketDesk x = Desks.solved(new int[] {3, 5, 7}, new int[][] {{9, 1, 1}, {1, 9, 1}, {1, 1, 9}});
        Answers.duePrice(x, 0, "3/1");
        Answers.duePrice(x, 1, "5/1");
        Answers.duePrice(x, 2, "7/1");
        Answers.dueBest(x, 1, "9/5", "9/1");
        Answers.dueLikes(x, 0, "100");
        Answers.dueLikes(x, 2, "001");
        Answers.dueSpent(x, 1, 1, "5/1", "1/1");
        Answers.dueSpent(x, 1, 0, "0/1", "0/1");
    }

    private static void moreBuyersThanGoods() {
        MarketDesk x = Desks.solved(new int[] {2, 3, 4}, new int[][] {{1}, {5}, {9}});
        Answers.duePrice(x, 0, "9/1");
        Answers.dueBest(x, 0, "1/9", "2/9");
        Answers.dueBest(x, 2, "1/1", "4/1");
        Answers.dueSpent(x, 0, 0, "2/1", "2/9");
        Answers.dueSpent(x, 1, 0, "3/1", "1/3");
        Answers.dueSpent(x, 2, 0, "4/1", "4/9");
    }

    private static void divisionPrefersEarlierBuyersAndGoods() {
        MarketDesk x = Desks.solved(new int[] {5, 6, 4}, new int[][] {{1, 1, 1}, {1, 1, 1}, {1, 1, 1}});
        Answers.duePrice(x, 0, "5/1");
        Answers.dueSpent(x, 0, 0, "5/1", "1/1");
        Answers.dueSpent(x, 0, 1, "0/1", "0/1");
        Answers.dueSpent(x, 1, 0, "0/1", "0/1");
        Answers.dueSpent(x, 1, 1, "5/1", "1/1");
        Answers.dueSpent(x, 1, 2, "1/1", "1/5");
        Answers.dueSpent(x, 2, 2, "4/1", "4/5");
        Answers.dueLikes(x, 2, "111");
    }

    private static void divisionLeavesEnoughForOthers() {
        // Good 1 is liked by buyer 0 and, too poor for all of it, buyer 1: buyer 0 must leave money for it.
        MarketDesk x = Desks.solved(new int[] {10, 2}, new int[][] {{2, 2}, {0, 5}});
        Answers.duePrice(x, 0, "6/1");
        Answers.duePrice(x, 1, "6/1");
        Answers.dueSpent(x, 0, 0, "6/1", "1/1");
        Answers.dueSpent(x, 0, 1, "4/1", "2/3");
        Answers.dueSpent(x, 1, 1, "2/1", "1/3");

        // Without buyer 2, buyer 0 would spend all on good 0; buyers 1 and 2 can't pay for goods 1 and 2 alone.
        MarketDesk y = Desks.solved(new int[] {6, 3, 3}, new int[][] {{1, 1, 1}, {1, 1, 0}, {1, 0, 1}});
        Answers.duePrice(y, 0, "4/1");
        Answers.dueSpent(y, 0, 0, "4/1", "1/1");
        Answers.dueSpent(y, 0, 1, "1/1", "1/4");
        Answers.dueSpent(y, 0, 2, "1/1", "1/4");
        Answers.dueSpent(y, 1, 1, "3/1", "3/4");
        Answers.dueSpent(y, 2, 2, "3/1", "3/4");

        MarketDesk z = Desks.solved(new int[] {4, 4, 4}, new int[][] {{1, 1, 1}, {1, 1, 0}, {1, 1, 0}});
        Answers.duePrice(z, 2, "4/1");
        Answers.dueSpent(z, 0, 0, "0/1", "0/1");
        Answers.dueSpent(z, 0, 1, "0/1", "0/1");
        Answers.dueSpent(z, 0, 2, "4/1", "1/1");
        Answers.dueSpent(z, 1, 0, "4/1", "1/1");
        Answers.dueSpent(z, 2, 1, "4/1", "1/1");
        Answers.dueLikes(z, 0, "111");
    }

    private static void likedButNotBought() {
        MarketDesk x = Desks.solved(new int[] {2, 4}, new int[][] {{1, 2}, {1, 2}});
        Answers.duePrice(x, 0, "2/1");
        Answers.duePrice(x, 1, "4/1");
        Answers.dueLikes(x, 0, "11");
        Answers.dueLikes(x, 1, "11");
        Answers.dueSpent(x, 0, 0, "2/1", "1/1");
        Answers.dueSpent(x, 0, 1, "0/1", "0/1");
        Answers.dueSpent(x, 1, 0, "0/1", "0/1");
        Answers.dueSpent(x, 1, 1, "4/1", "1/1");
    }
}
