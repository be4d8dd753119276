/** Makes markets for tests. */
final class Desks {
    /** A market with these moneys, and for each buyer a row of values. */
    static MarketDesk ready(int[] money, int[][] values) {
        MarketDesk x = new MarketDesk();
        for (int m : money) {
            x.buyer(m);
        }
        for (int g = 0; g < values[0].length; g++) {
            x.good();
            for (int b = 0; b < money.length; b++) {
                x.value(b, g, values[b][g]);
            }
        }
        return x;
    }
}
