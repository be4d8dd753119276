/** Promises 1 to 10 in ordinary use: the market, its changes and what is told of it. MarketEdgeTest has the edges. */
public final class MarketTest {
    private static final Class<IllegalStateException> STATE = IllegalStateException.class;
    private static final Class<IndexOutOfBoundsException> INDEX = IndexOutOfBoundsException.class;

    public static void main(String[] args) {
        buyers();
        goods();
        money();
        values();
        joins();
        undoes();
        undoesWithWhatWasSolved();
        ready();
        Check.end();
    }

    private static void setValues(MarketDesk x, int good, int first, int second, int third) {
        x.value(0, good, first);
        x.value(1, good, second);
        x.value(2, good, third);
    }

    private static void values(String what, MarketDesk x, int good, int first, int second, int third) {
        Check.due(what + ": value of 0 for " + good, first, () -> x.told(0, good));
        Check.due(what + ": value of 1 for " + good, second, () -> x.told(1, good));
        Check.due(what + ": value of 2 for " + good, third, () -> x.told(2, good));
    }

    private static void buyers() {
        MarketDesk x = new MarketDesk();
        Check.due("a buyer with 4", 0, () -> x.buyer(4));
        Check.due("a buyer with 17", 1, () -> x.buyer(17));
        Check.due("buyers", 2, () -> x.count(false));
        Check.due("goods beside buyers", 0, () -> x.count(true));
        Check.due("money of buyer 0", 4, () -> x.told(0, -1));
        Check.due("money of buyer 1", 17, () -> x.told(1, -1));
    }

    private static void goods() {
        MarketDesk x = Desks.bare(3, 0);
        Check.due("a good", 0, () -> x.good());
        Check.due("a good", 1, () -> x.good());
        Check.due("goods", 2, () -> x.count(true));
        values("a new good", x, 1, 0, 0, 0);
        Check.due("undo of a good", 4, () -> x.undo());
        Check.due("goods after undo", 1, () -> x.count(true));
    }

    private static void money() {
        MarketDesk x = Desks.bare(2, 0);
        Check.done("money", () -> x.money(1, 12));
        Check.due("money told", 12, () -> x.told(1, -1));
        Check.due("undo of money", 2, () -> x.undo());
        Check.due("money after undo", 2, () -> x.told(1, -1));
    }

    private static void values() {
        MarketDesk x = Desks.bare(3, 2);
        Check.done("value", () -> x.value(2, 1, 6));
        values("value", x, 1, 0, 0, 6);
        values("value", x, 0, 0, 0, 0);
        Check.due("undo of a value", 5, () -> x.undo());
        values("value after undo", x, 1, 0, 0, 0);
    }

    private static void joins() {
        MarketDesk x = Desks.bare(3, 3);
        setValues(x, 0, 1, 2, 0);
        setValues(x, 1, 5, 0, 6);
        setValues(x, 2, 3, 6, 0);
        Check.done("join 0 and 2", () -> x.join(0, 2));
        Check.due("goods after join", 2, () -> x.count(true));
        values("joined", x, 0, 4, 8, 0);
        values("between", x, 1, 5, 0, 6);
        Check.thrown("value of a good that is gone", INDEX, () -> x.told(0, 2));
        Check.due("a good behind a join", 2, () -> x.good());
        values("a good behind a join", x, 2, 0, 0, 0);
        x.undo();
        x.undo();
        Check.due("goods after undo", 3, () -> x.count(true));
        values("undone", x, 0, 1, 2, 0);
        values("undone", x, 2, 3, 6, 0);

        setValues(x, 1, 2, 4, 0);
        setValues(x, 2, 7, 8, 9);
        Check.done("join 0 and 1", () -> x.join(0, 1));
        values("joined", x, 0, 3, 6, 0);
        values("the good behind", x, 1, 7, 8, 9);
    }

    private static void undoes() {
        MarketDesk x = new MarketDesk();
        x.buyer(3);
        x.good();
        x.value(0, 0, 4);
        x.money(0, 9);
        Check.due("undo of money", 3, () -> x.undo());
        Check.due("money", 3, () -> x.told(0, -1));
        Check.due("undo of value", 2, () -> x.undo());
        Check.due("value", 0, () -> x.told(0, 0));
        Check.done("a change after undo", () -> x.value(0, 0, 7));
        Check.due("undo of the change after undo", 2, () -> x.undo());
        Check.due("undo of good", 1, () -> x.undo());
        Check.due("goods", 0, () -> x.count(true));
        Check.due("undo of buyer", 0, () -> x.undo());
        Check.due("buyers", 0, () -> x.count(false));
        Check.thrown("undo of nothing", STATE, () -> x.undo());
    }

    private static void undoesWithWhatWasSolved() {
        MarketDesk x = Desks.solved(new int[] {6}, new int[][] {{1, 2}});
        x.join(0, 1);
        Check.thrown("a join ends what was solved", STATE, () -> x.price(0, false));
        x.solve();
        Check.due("price of the joined good", 6, () -> x.price(0, false));
        x.money(0, 8);
        x.solve();
        Check.due("price with more money", 8, () -> x.price(0, false));
        x.undo();
        Check.due("price before it", 6, () -> x.price(0, false));
        x.undo();
        Check.due("price of good 1 before the join", 4, () -> x.price(1, false));
        x.undo();
        Check.thrown("not ready, not solved", STATE, () -> x.price(0, false));
    }

    private static void ready() {
        MarketDesk x = new MarketDesk();
        Check.due("nothing", 1, () -> x.ready());
        x.buyer(1);
        Check.due("no good", 1, () -> x.ready());
        x.good();
        Check.due("buyer 0 wants nothing", 10, () -> x.ready());
        x.value(0, 0, 3);
        Check.due("ready", 0, () -> x.ready());
        x.good();
        Check.due("nobody wants good 1", 21, () -> x.ready());
        x.buyer(1);
        Check.due("buyer 1 wants nothing, before goods", 11, () -> x.ready());
        x.value(1, 1, 4);
        Check.due("ready", 0, () -> x.ready());
    }
}
