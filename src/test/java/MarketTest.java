/** Promises 1 to 10: the market, its changes and what is told of it. */
public final class MarketTest {
    private static final Class<IllegalArgumentException> ARGUMENT = IllegalArgumentException.class;
    private static final Class<IllegalStateException> STATE = IllegalStateException.class;
    private static final Class<IndexOutOfBoundsException> INDEX = IndexOutOfBoundsException.class;
    private static final Class<UnsupportedOperationException> UNSUPPORTED = UnsupportedOperationException.class;

    public static void main(String[] args) {
        newObject();
        buyers();
        goods();
        money();
        values();
        joins();
        refusedJoins();
        undoes();
        undoesEightAtMost();
        undoesWithWhatWasSolved();
        told();
        ready();
        Check.end();
    }

    /** Three buyers with money 1, 2, 3 and the goods given, all values 0. */
    private static MarketDesk desk(int goods) {
        MarketDesk x = new MarketDesk();
        for (int b = 0; b < 3; b++) {
            x.buyer(b + 1);
        }
        for (int g = 0; g < goods; g++) {
            x.good();
        }
        return x;
    }

    private static void setValues(MarketDesk x, int good, int first, int second, int third) {
        x.value(0, good, first);
        x.value(1, good, second);
        x.value(2, good, third);
    }

    private static void values(String what, MarketDesk x, int good, int first, int second, int third) {
        Check.due(what + ": value of 0 for " + good, first, () -> x.told(0, good));
        Check.due(what + ": value of 1 for " + good, second, () -> x.told(1, good));
        Check.due(what + ": value of 2 for " + good, third, () -> x.told(2, good));
    }

    private static void newObject() {
        MarketDesk x = new MarketDesk();
        Check.due("new: buyers", 0, () -> x.count(false));
        Check.due("new: goods", 0, () -> x.count(true));
        Check.due("new: ready", 1, () -> x.ready());
        Check.thrown("new: undo", STATE, () -> x.undo());
        x.buyer(3);
        for (int g = 0; g < 3; g++) {
            x.good();
            x.value(0, g, 1);
        }
        Check.due("new: all tried prices are 1", 0, () -> x.test());
    }

    private static void buyers() {
        MarketDesk x = new MarketDesk();
        for (int bad : new int[] {0, 21, -1, Integer.MIN_VALUE, Integer.MAX_VALUE}) {
            Check.thrown("buyer " + bad, ARGUMENT, () -> x.buyer(bad));
        }
        Check.due("no buyer from refused calls", 0, () -> x.count(false));
        Check.thrown("no change from refused calls", STATE, () -> x.undo());
        Check.due("buyer 1", 0, () -> x.buyer(1));
        Check.due("buyer 20", 1, () -> x.buyer(20));
        Check.due("buyer 7", 2, () -> x.buyer(7));
        Check.thrown("a fourth buyer", UNSUPPORTED, () -> x.buyer(7));
        Check.thrown("a fourth buyer with wrong money", ARGUMENT, () -> x.buyer(21));
        Check.due("buyers", 3, () -> x.count(false));
        Check.due("goods beside three buyers", 0, () -> x.count(true));
        Check.due("money of buyer 1", 20, () -> x.told(1, -1));
        Check.due("a refused buyer is no change", 2, () -> x.undo());
        Check.due("a buyer after undo", 2, () -> x.buyer(5));
    }

    private static void goods() {
        MarketDesk x = desk(0);
        for (int g = 0; g < 3; g++) {
            int number = g;
            Check.due("good", number, () -> x.good());
            values("a new good", x, number, 0, 0, 0);
        }
        Check.thrown("a fourth good", UNSUPPORTED, () -> x.good());
        Check.due("goods", 3, () -> x.count(true));
        Check.due("a refused good is no change", 5, () -> x.undo());
        Check.due("goods after undo", 2, () -> x.count(true));
    }

    private static void money() {
        MarketDesk x = new MarketDesk();
        Check.thrown("money without buyers", INDEX, () -> x.money(0, 1));
        x.buyer(4);
        Check.done("money 20", () -> x.money(0, 20));
        Check.due("money told", 20, () -> x.told(0, -1));
        Check.done("money 1", () -> x.money(0, 1));
        Check.thrown("money 0", ARGUMENT, () -> x.money(0, 0));
        Check.thrown("money 21", ARGUMENT, () -> x.money(0, 21));
        Check.thrown("money of buyer 1", INDEX, () -> x.money(1, 5));
        Check.thrown("money of buyer -1", INDEX, () -> x.money(-1, 5));
        Check.thrown("wrong money of no buyer", INDEX, () -> x.money(1, 0));
        Check.due("money after refused calls", 1, () -> x.told(0, -1));
        Check.due("undo of money", 2, () -> x.undo());
        Check.due("money after undo", 20, () -> x.told(0, -1));
    }

    private static void values() {
        MarketDesk x = desk(2);
        Check.done("value 9", () -> x.value(2, 1, 9));
        values("value", x, 1, 0, 0, 9);
        values("value", x, 0, 0, 0, 0);
        Check.thrown("value 10", ARGUMENT, () -> x.value(2, 1, 10));
        Check.thrown("value -1", ARGUMENT, () -> x.value(2, 1, -1));
        Check.thrown("value of buyer 3", INDEX, () -> x.value(3, 1, 1));
        Check.thrown("value of buyer -1", INDEX, () -> x.value(-1, 1, 1));
        Check.thrown("value for good 2", INDEX, () -> x.value(0, 2, 1));
        Check.thrown("value for good -1", INDEX, () -> x.value(0, -1, 1));
        Check.thrown("wrong value for no good", INDEX, () -> x.value(0, 2, 10));
        values("refused values", x, 1, 0, 0, 9);
        Check.done("value 0", () -> x.value(2, 1, 0));
        values("value 0", x, 1, 0, 0, 0);
        Check.due("refused values are no change", 6, () -> x.undo());
    }

    private static void joins() {
        MarketDesk x = desk(3);
        setValues(x, 0, 1, 2, 0);
        setValues(x, 1, 5, 0, 6);
        setValues(x, 2, 3, 6, 0);
        Check.done("join 0 and 2", () -> x.join(0, 2));
        Check.due("goods after join", 2, () -> x.count(true));
        values("joined", x, 0, 4, 8, 0);
        values("between", x, 1, 5, 0, 6);
        Check.thrown("value of a good that is gone", INDEX, () -> x.told(0, 2));
        Check.due("a good behind a join", 2, () -> x.good());
        values("a good behind a join", x, 2, 0, 0, 0);
        x.undo();
        x.undo();
        Check.due("goods after undo", 3, () -> x.count(true));
        values("undone", x, 0, 1, 2, 0);
        values("undone", x, 2, 3, 6, 0);

        setValues(x, 1, 2, 4, 0);
        setValues(x, 2, 7, 8, 9);
        Check.done("join 0 and 1", () -> x.join(0, 1));
        values("joined", x, 0, 3, 6, 0);
        values("the good behind", x, 1, 7, 8, 9);

        MarketDesk noBuyers = new MarketDesk();
        noBuyers.good();
        noBuyers.good();
        Check.done("join without buyers", () -> noBuyers.join(0, 1));
        Check.due("goods after join", 1, () -> noBuyers.count(true));
        noBuyers.buyer(1);
        Check.due("value after join", 0, () -> noBuyers.told(0, 0));

        MarketDesk nines = desk(2);
        setValues(nines, 0, 4, 0, 4);
        setValues(nines, 1, 5, 0, 5);
        Check.done("join with sum 9", () -> nines.join(0, 1));
        values("sum 9", nines, 0, 9, 0, 9);

        MarketDesk worthless = desk(2);
        setValues(worthless, 0, 1, 2, 3);
        Check.done("a good without value is in proportion", () -> worthless.join(0, 1));
        values("sum with 0", worthless, 0, 1, 2, 3);
    }

    private static void refusedJoins() {
        MarketDesk x = desk(2);
        setValues(x, 0, 1, 2, 3);
        setValues(x, 1, 2, 4, 7);
        for (int[] bad : new int[][] {{1, 0}, {0, 0}, {1, 1}, {0, 2}, {-1, 1}, {-1, 0}, {2, 3}}) {
            Check.thrown("join " + bad[0] + " and " + bad[1], INDEX, () -> x.join(bad[0], bad[1]));
        }
        Check.thrown("join with sum 10", ARGUMENT, () -> x.join(0, 1));
        x.value(2, 1, 5);
        Check.thrown("join out of proportion by buyer 2", ARGUMENT, () -> x.join(0, 1));
        x.value(2, 1, 6);
        Check.done("join in proportion", () -> x.join(0, 1));
        Check.due("refused joins are no change", 7, () -> x.undo());
        values("undone", x, 1, 2, 4, 6);
        setValues(x, 0, 0, 3, 1);
        setValues(x, 1, 1, 6, 2);
        Check.thrown("join out of proportion by buyer 0", ARGUMENT, () -> x.join(0, 1));
        setValues(x, 0, 1, 3, 0);
        setValues(x, 1, 0, 0, 1);
        Check.thrown("join out of proportion by a 0", ARGUMENT, () -> x.join(0, 1));
        setValues(x, 0, 0, 5, 0);
        setValues(x, 1, 0, 5, 0);
        Check.thrown("join in proportion with sum 10", ARGUMENT, () -> x.join(0, 1));
        Check.due("goods after refused joins", 2, () -> x.count(true));
        values("after refused joins", x, 0, 0, 5, 0);
    }

    private static void undoes() {
        MarketDesk x = new MarketDesk();
        x.buyer(3);
        x.good();
        x.value(0, 0, 4);
        x.value(0, 0, 4);
        x.money(0, 9);
        x.tryPrice(0, 9, 1);
        Check.due("undo of money", 4, () -> x.undo());
        Check.due("money", 3, () -> x.told(0, -1));
        Check.due("a change that says what there is", 3, () -> x.undo());
        Check.due("value", 4, () -> x.told(0, 0));
        Check.due("undo of value", 2, () -> x.undo());
        Check.due("value", 0, () -> x.told(0, 0));
        Check.due("a change after undo", "done", () -> Check.outcomeOf(() -> x.value(0, 0, 7)));
        x.money(0, 9);
        Check.due("a tried price is not undone", 0, () -> x.test());
        Check.due("undo", 3, () -> x.undo());
        Check.due("undo", 2, () -> x.undo());
        Check.due("undo of good", 1, () -> x.undo());
        Check.due("goods", 0, () -> x.count(true));
        Check.due("undo of buyer", 0, () -> x.undo());
        Check.due("buyers", 0, () -> x.count(false));
        Check.thrown("undo of nothing", STATE, () -> x.undo());
    }

    private static void undoesEightAtMost() {
        MarketDesk x = new MarketDesk();
        x.buyer(20);
        for (int m = 1; m <= 13; m++) {
            x.money(0, m);
        }
        for (int left = 7; left >= 0; left--) {
            int due = left;
            Check.due("undo of the latest 8", due, () -> x.undo());
            Check.due("money before it", 5 + due, () -> x.told(0, -1));
        }
        Check.thrown("undo of a ninth", STATE, () -> x.undo());
        Check.due("money", 5, () -> x.told(0, -1));
        for (int m = 14; m <= 20; m++) {
            x.money(0, m);
        }
        Check.due("undo of new changes", 6, () -> x.undo());
        Check.due("money", 19, () -> x.told(0, -1));
    }

    private static void undoesWithWhatWasSolved() {
        MarketDesk x = new MarketDesk();
        x.buyer(6);
        x.good();
        x.value(0, 0, 3);
        x.solve();
        x.value(0, 0, 3);
        Check.thrown("a change ends what was solved", STATE, () -> x.price(0, false));
        x.undo();
        Check.due("what was solved is back", 6, () -> x.price(0, false));
        x.good();
        Check.thrown("a good ends what was solved", STATE, () -> x.likes(0, 0));
        x.undo();
        x.buyer(1);
        Check.thrown("a buyer ends what was solved", STATE, () -> x.best(0, 0, false));
        x.undo();
        x.money(0, 7);
        Check.thrown("money ends what was solved", STATE, () -> x.spent(0, 0, 0, false));
        x.solve();
        x.money(0, 8);
        Check.due("undo", 4, () -> x.undo());
        Check.due("solved after undo", 7, () -> x.spent(0, 0, 0, false));
        x.undo();
        Check.due("solved after two undone", 6, () -> x.spent(0, 0, 0, false));
        x.undo();
        Check.thrown("not solved then", STATE, () -> x.price(0, false));
        Check.thrown("and not ready then", STATE, () -> x.solve());

        MarketDesk later = new MarketDesk();
        later.buyer(6);
        later.good();
        later.value(0, 0, 3);
        later.money(0, 5);
        later.solve();
        later.undo();
        Check.thrown("solved later is not solved then", STATE, () -> later.price(0, false));
        Check.thrown("a refused change", ARGUMENT, () -> later.money(0, 0));
        later.solve();
        Check.thrown("a refused change", ARGUMENT, () -> later.money(0, 0));
        Check.due("a refused change ends nothing", 6, () -> later.price(0, false));

        MarketDesk joined = new MarketDesk();
        joined.buyer(6);
        joined.good();
        joined.good();
        joined.value(0, 0, 1);
        joined.value(0, 1, 2);
        joined.solve();
        joined.join(0, 1);
        Check.thrown("a join ends what was solved", STATE, () -> joined.price(0, false));
        joined.solve();
        Check.due("price of the joined good", 6, () -> joined.price(0, false));
        joined.undo();
        Check.due("price of good 1 before the join", 4, () -> joined.price(1, false));
    }

    private static void told() {
        MarketDesk x = desk(1);
        x.value(1, 0, 8);
        Check.due("value told", 8, () -> x.told(1, 0));
        Check.due("money told", 2, () -> x.told(1, -1));
        Check.thrown("told of buyer 3", INDEX, () -> x.told(3, 0));
        Check.thrown("told of buyer -1", INDEX, () -> x.told(-1, -1));
        Check.thrown("told of good 1", INDEX, () -> x.told(0, 1));
        Check.thrown("told of good -2", INDEX, () -> x.told(0, -2));
        Check.thrown("told of good 3", INDEX, () -> x.told(0, 3));
        Check.thrown("told of a new object", INDEX, () -> new MarketDesk().told(0, -1));
    }

    private static void ready() {
        MarketDesk x = new MarketDesk();
        x.good();
        Check.due("no buyer", 1, () -> x.ready());
        x.undo();
        x.buyer(1);
        Check.due("no good", 1, () -> x.ready());
        x.good();
        Check.due("buyer 0 wants nothing", 10, () -> x.ready());
        x.value(0, 0, 1);
        Check.due("ready", 0, () -> x.ready());
        x.good();
        Check.due("nobody wants good 1", 21, () -> x.ready());
        x.buyer(1);
        Check.due("buyer 1 wants nothing, before goods", 11, () -> x.ready());
        x.value(1, 1, 1);
        Check.due("ready", 0, () -> x.ready());
        x.buyer(1);
        Check.due("buyer 2 wants nothing", 12, () -> x.ready());
        x.value(2, 1, 9);
        x.value(0, 0, 0);
        Check.due("buyer 0 wants nothing", 10, () -> x.ready());
        x.value(0, 1, 2);
        Check.due("nobody wants good 0", 20, () -> x.ready());
        x.good();
        x.value(2, 0, 1);
        Check.due("nobody wants good 2", 22, () -> x.ready());
        Check.thrown("solve what is not ready", STATE, () -> x.solve());
        Check.thrown("test what is not ready", STATE, () -> x.test());
        x.value(2, 2, 1);
        Check.due("ready", 0, () -> x.ready());
        Check.done("solve", () -> x.solve());
    }
}
