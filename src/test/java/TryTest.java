/** Promises 16 and 17 in ordinary use: prices from elsewhere. TryEdgeTest has the edges. */
public final class TryTest {
    public static void main(String[] args) {
        triedPricesAreNoChange();
        fairOrNot();
        leastTooDearSet();
        Check.end();
    }

    private static void triedPricesAreNoChange() {
        MarketDesk x = Desks.solved(new int[] {6}, new int[][] {{3}});
        x.tryPrice(0, 6, 1);
        Check.due("what was solved stays", 6, () -> x.price(0, false));
        Check.due("test", 0, () -> x.test());
        Check.due("what was solved stays", 6, () -> x.price(0, false));
        x.money(0, 5);
        Check.due("the tried price stays", -1, () -> x.test());
        x.undo();
        Check.due("the tried price stays", 0, () -> x.test());
        x.good();
        x.value(0, 1, 1);
        x.tryPrice(0, 2, 1);
        x.tryPrice(1, 4, 1);
        x.join(0, 1);
        x.tryPrice(0, 6, 1);
        Check.due("joined", 0, () -> x.test());
        x.undo();
        x.tryPrice(0, 2, 1);
        Check.due("the tried price of good 1 stays", 2, () -> x.test());
    }

    private static void fairOrNot() {
        MarketDesk x = Desks.ready(new int[] {6, 20}, new int[][] {{3, 2, 0}, {1, 0, 5}});
        Answers.dueTest(x, 0, 39, 10, 26, 10, 39, 2);
        Answers.dueTest(x, 0, 3900, 1000, 13, 5, 19500, 1000);
        Answers.dueTest(x, -1, 39, 10, 26, 10, 39, 1);
        Answers.dueTest(x, -1, 39, 10, 26, 10, 39, 3);
        x.solve();
        for (int g = 0; g < 3; g++) {
            x.tryPrice(g, (int) x.price(g, false), (int) x.price(g, true));
        }
        Check.due("test of the prices", 0, () -> x.test());
    }

    private static void leastTooDearSet() {
        // Each of two goods alone can be paid for, both together can't.
        int[][] shared = {{1, 1, 0}, {1, 1, 0}, {0, 0, 1}};
        MarketDesk y = Desks.ready(new int[] {5, 5, 5}, shared);
        Answers.dueTest(y, 3, 6, 1, 6, 1, 3, 1);
        Answers.dueTest(y, 4, 4, 1, 4, 1, 7, 1);
        Answers.dueTest(y, 1, 12, 1, 1, 1, 2, 1);
        Answers.dueTest(y, 2, 1, 1, 12, 1, 2, 1);
        // Nobody likes good 0 at its price, so that good 0 is too dear by itself.
        Answers.dueTest(Desks.ready(new int[] {5}, new int[][] {{1, 9}}), 1, 1, 1, 4, 1);
    }
}
