/** The boundary cases of refused calls, by "Terms" and the order in "The public face": each method for its sentence. */
public final class RefusedEdgeTest {
    private static final int[] FAR = {Integer.MIN_VALUE, -2, 4, Integer.MAX_VALUE};

    public static void main(String[] args) {
        refusedCallsAreNoChange();
        noSuchBuyer();
        noSuchGood();
        firstNamedException();
        Check.end();
    }

    /** "that is not refused", and "A call that throws changes nothing": where nothing is, and where all is full. */
    private static void refusedCallsAreNoChange() {
        Refused.argument("buyer of nothing", MarketDesk::new, x -> x.buyer(0));
        Refused.index("money of nothing", MarketDesk::new, x -> x.money(0, 1));
        Refused.index("value of nothing", MarketDesk::new, x -> x.value(0, 0, 1));
        Refused.index("join of nothing", MarketDesk::new, x -> x.join(0, 1));
        Refused.state("undo of nothing", MarketDesk::new, x -> x.undo());
        Refused.index("told of nothing", MarketDesk::new, x -> x.told(0, -1));
        Refused.state("solve of nothing", MarketDesk::new, x -> x.solve());
        Refused.state("price of nothing", MarketDesk::new, x -> x.price(0, false));
        Refused.state("best of nothing", MarketDesk::new, x -> x.best(0, 0, false));
        Refused.state("likes of nothing", MarketDesk::new, x -> x.likes(0, 0));
        Refused.state("spent of nothing", MarketDesk::new, x -> x.spent(0, 0, 0, false));
        Refused.index("tryPrice of nothing", MarketDesk::new, x -> x.tryPrice(3, 1, 1));
        Refused.state("test of nothing", MarketDesk::new, x -> x.test());
        Refused.unsupported("buyer when full", Desks::full, x -> x.buyer(5));
        Refused.unsupported("good when full", Desks::full, x -> x.good());
        Refused.argument("join when full", Desks::full, x -> x.join(0, 1));
        Refused.state("solve when full and not ready", Desks::fullNotReady, x -> x.solve());
        Refused.state("test when full and not ready", Desks::fullNotReady, x -> x.test());
        Refused.state("price when full and not solved", Desks::fullUnsolved, x -> x.price(0, false));
    }

    /** "IndexOutOfBoundsException: there is no such buyer": for each count of buyers the last, and the next. */
    private static void noSuchBuyer() {
        for (int buyers = 0; buyers <= 3; buyers++) {
            int count = buyers;
            refusedBuyer(count, count);
            refusedBuyer(count, -1);
            for (int far : FAR) {
                refusedBuyer(count, far);
            }
            if (count > 0) {
                MarketDesk x = rows(count, 1);
                x.solve();
                int last = count - 1;
                Check.due("told of the last buyer", 20, () -> x.told(last, -1));
                Check.due("best of the last buyer", 1, () -> x.best(last, 0, false));
                Check.due("likes of the last buyer", true, () -> x.likes(last, 0));
                Check.due("spent of the last buyer", 20, () -> x.spent(last, 0, 0, false));
                Check.done("money of the last buyer", () -> x.money(last, 2));
                Check.done("value of the last buyer", () -> x.value(last, 0, 2));
            }
        }
    }

    private static void refusedBuyer(int count, int bad) {
        String who = " of buyer " + bad + " of " + count;
        Refused.index("money" + who, () -> rows(count, 1), x -> x.money(bad, 1));
        Refused.index("value" + who, () -> rows(count, 1), x -> x.value(bad, 0, 1));
        Refused.index("told" + who, () -> rows(count, 1), x -> x.told(bad, 0));
        Refused.index("told" + who, () -> rows(count, 1), x -> x.told(bad, -1));
        if (count > 0) {
            Refused.index("best" + who, () -> solvedRows(count, 1), x -> x.best(bad, 0, false));
            Refused.index("likes" + who, () -> solvedRows(count, 1), x -> x.likes(bad, 0));
            Refused.index("spent" + who, () -> solvedRows(count, 1), x -> x.spent(bad, 0, 0, false));
        }
    }

    /** Buyers with money 20 and value 1 for each good; so it is ready, if there is one of each. */
    private static MarketDesk rows(int buyers, int goods) {
        MarketDesk x = new MarketDesk();
        for (int g = 0; g < goods; g++) {
            x.good();
        }
        for (int b = 0; b < buyers; b++) {
            x.buyer(20);
            for (int g = 0; g < goods; g++) {
                x.value(b, g, 1);
            }
        }
        return x;
    }

    private static MarketDesk solvedRows(int buyers, int goods) {
        MarketDesk x = rows(buyers, goods);
        x.solve();
        return x;
    }

    /** "or good": for each count of goods the last, and the next. */
    private static void noSuchGood() {
        for (int goods = 0; goods <= 3; goods++) {
            int count = goods;
            refusedGood(count, count);
            for (int far : FAR) {
                refusedGood(count, far);
            }
            Refused.index("value for good -1", () -> rows(1, count), x -> x.value(0, -1, 1));
            if (count > 0) {
                refusedGoodOfSolved(count, -1);
                MarketDesk x = solvedRows(1, count);
                int last = count - 1;
                Check.due("told for the last good", 1, () -> x.told(0, last));
                Check.due("price of the last good", count, () -> x.price(last, true) * 20 / x.price(last, false));
                Check.due("likes of the last good", true, () -> x.likes(0, last));
                Check.due("part of the last good", 1, () -> x.spent(0, last, 1, false));
                Check.done("value for the last good", () -> x.value(0, last, 2));
            }
        }
    }

    private static void refusedGood(int count, int bad) {
        String which = " for good " + bad + " of " + count;
        Refused.index("value" + which, () -> rows(1, count), x -> x.value(0, bad, 1));
        Refused.index("told" + which, () -> rows(1, count), x -> x.told(0, bad));
        if (count > 0) {
            refusedGoodOfSolved(count, bad);
        }
    }

    private static void refusedGoodOfSolved(int count, int bad) {
        String which = " for good " + bad + " of " + count;
        Refused.index("price" + which, () -> solvedRows(1, count), x -> x.price(bad, false));
        Refused.index("likes" + which, () -> solvedRows(1, count), x -> x.likes(0, bad));
        Refused.index("spent" + which, () -> solvedRows(1, count), x -> x.spent(0, bad, 0, false));
    }

    /** "where several exceptions that a call names fit, it is the one that it names first". */
    private static void firstNamedException() {
        Refused.argument("a fourth buyer without money", Desks::full, x -> x.buyer(0));
        Refused.argument("a fourth buyer with too much", Desks::full, x -> x.buyer(21));
        Refused.index("no money for no buyer", Desks::full, x -> x.money(3, 0));
        Refused.index("too much money for no buyer", Desks::full, x -> x.money(-1, 21));
        Refused.index("value 10 of no buyer", Desks::full, x -> x.value(3, 0, 10));
        Refused.index("value -1 for no good", Desks::full, x -> x.value(0, 3, -1));
        // The values of goods 0 and 1 of the full market are out of proportion, and sum up to 10.
        Refused.index("join backwards, sum above 9", Desks::full, x -> x.join(1, 0));
        Refused.index("join with itself, sum above 9", Desks::full, x -> x.join(0, 0));
        Refused.index("join with no good", Desks::full, x -> x.join(0, 3));
        Refused.index("join of no good", Desks::full, x -> x.join(-1, 0));
        Refused.state("price of no good, not solved", Desks::fullUnsolved, x -> x.price(3, false));
        Refused.state("best of no buyer, not solved", Desks::fullUnsolved, x -> x.best(3, 0, false));
        Refused.state("best of what 2, not solved", Desks::fullUnsolved, x -> x.best(0, 2, false));
        Refused.state("likes of no buyer, not solved", Desks::fullUnsolved, x -> x.likes(-1, 0));
        Refused.state("likes of no good, not solved", Desks::fullUnsolved, x -> x.likes(0, 3));
        Refused.state("spent of no buyer, not solved", Desks::fullUnsolved, x -> x.spent(3, 0, 0, false));
        Refused.state("spent on no good, not solved", Desks::fullUnsolved, x -> x.spent(0, -1, 0, false));
        Refused.state("spent of what -1, not solved", Desks::fullUnsolved, x -> x.spent(0, 0, -1, false));
        Refused.index("no price for no good", Desks::full, x -> x.tryPrice(3, 0, 1));
        Refused.index("a price by 0 for no good", Desks::full, x -> x.tryPrice(-1, 1, 0));
    }
}
