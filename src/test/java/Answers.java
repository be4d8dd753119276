/** What a desk tells of prices, as texts: fractions as above/below. */
final class Answers {
    static String price(MarketDesk x, int good) {
        return x.price(good, false) + "/" + x.price(good, true);
    }

    static String best(MarketDesk x, int buyer, int what) {
        return x.best(buyer, what, false) + "/" + x.best(buyer, what, true);
    }

    static String spent(MarketDesk x, int buyer, int good, int what) {
        return x.spent(buyer, good, what, false) + "/" + x.spent(buyer, good, what, true);
    }

    /** A 1 for each good that a buyer likes, a 0 for each other. */
    static String likes(MarketDesk x, int buyer) {
        StringBuilder text = new StringBuilder();
        for (int g = 0; g < x.count(true); g++) {
            text.append(x.likes(buyer, g) ? '1' : '0');
        }
        return text.toString();
    }

    static void duePrice(MarketDesk x, int good, String due) {
        Check.due("price of " + good, due, () -> price(x, good));
    }

    static void dueBest(MarketDesk x, int buyer, String due, String dueTimesMoney) {
        Check.due("best of " + buyer, due, () -> best(x, buyer, 0));
        Check.due("all of " + buyer, dueTimesMoney, () -> best(x, buyer, 1));
    }

    static void dueSpent(MarketDesk x, int buyer, int good, String due, String duePart) {
        Check.due("spent by " + buyer + " on " + good, due, () -> spent(x, buyer, good, 0));
        Check.due("part by " + buyer + " of " + good, duePart, () -> spent(x, buyer, good, 1));
    }

    static void dueLikes(MarketDesk x, int buyer, String due) {
        Check.due("likings of " + buyer, due, () -> likes(x, buyer));
    }

    /** Tries prices, given by pairs of above and below, and tests them. */
    static void dueTest(MarketDesk x, int due, int... prices) {
        for (int i = 0; i < prices.length; i += 2) {
            x.tryPrice(i / 2, prices[i], prices[i + 1]);
        }
        Check.due("test of " + java.util.Arrays.toString(prices), due, () -> x.test());
    }
}
