/** Makes markets for tests. */
final class Desks {
    /** A market with these moneys, and for each buyer a row of values. */
    static MarketDesk ready(int[] money, int[][] values) {
        MarketDesk x = new MarketDesk();
        for (int m : money) {
            x.buyer(m);
        }
        for (int g = 0; g < values[0].length; g++) {
            x.good();
            for (int b = 0; b < money.length; b++) {
                x.value(b, g, values[b][g]);
            }
        }
        return x;
    }

    static MarketDesk solved(int[] money, int[][] values) {
        MarketDesk x = ready(money, values);
        x.solve();
        return x;
    }

    /** Buyers with money 1, 2, 3, as many as are asked for, and goods, all values 0. */
    static MarketDesk bare(int buyers, int goods) {
        MarketDesk x = new MarketDesk();
        for (int b = 0; b < buyers; b++) {
            x.buyer(b + 1);
        }
        for (int g = 0; g < goods; g++) {
            x.good();
        }
        return x;
    }

    /** Five changes, the market solved after the latest, its prices 2 and 4 tried; goods 0 and 1 can be joined. */
    static MarketDesk small() {
        MarketDesk x = solved(new int[] {6}, new int[][] {{1, 2}});
        x.tryPrice(0, 2, 1);
        x.tryPrice(1, 8, 2);
        return x;
    }

    /**
     * As many buyers, goods and changes as there may be; solved now and before each second of the latest changes;
     * the tried prices are fair, so that each other one would show.
     */
    static MarketDesk full() {
        MarketDesk x = ready(new int[] {3, 5, 7}, new int[][] {{9, 1, 1}, {1, 9, 1}, {1, 1, 9}});
        x.solve();
        x.money(0, 4);
        x.value(2, 2, 8);
        x.solve();
        x.money(1, 5);
        x.value(1, 1, 7);
        x.solve();
        x.value(0, 2, 0);
        x.money(2, 20);
        x.solve();
        x.tryPrice(0, 12, 3);
        x.tryPrice(1, 100000, 20000);
        x.tryPrice(2, 20, 1);
        return x;
    }

    /** As full, but the latest change, to the market that is there already, ended what was solved. */
    static MarketDesk fullUnsolved() {
        MarketDesk x = full();
        x.money(0, 4);
        return x;
    }

    /** Three buyers and three goods, of which nobody wants the last. */
    static MarketDesk fullNotReady() {
        return ready(new int[] {3, 5, 7}, new int[][] {{9, 1, 0}, {1, 9, 0}, {1, 1, 0}});
    }
}
