/** All that a desk answers, as a text. Alike texts of two desks say that they are in the same state. */
final class Picture {
    /**
     * The market of now, all that was solved, and by undoing all changes the markets before it. It takes some 320
     * calls at most, of the 512 of a desk, and leaves the desk with nothing to undo.
     */
    static String whole(MarketDesk x) {
        StringBuilder text = new StringBuilder(now(x));
        String left = Check.outcome(() -> x.undo());
        for (int undone = 0; undone < 9 && !left.startsWith("throws"); undone++) {
            text.append(" | ").append(left).append(" left: ");
            market(x, text);
            prices(x, text);
            left = Check.outcome(() -> x.undo());
        }
        return text.append(" | ").append(left).toString();
    }

    /** The market of now, all that was solved, and what the test says of the tried prices: some 100 calls at most. */
    static String now(MarketDesk x) {
        StringBuilder text = new StringBuilder();
        market(x, text);
        text.append(" test ").append(Check.outcome(() -> x.test()));
        if (prices(x, text)) {
            for (int b = 0; b < x.count(false); b++) {
                solvedFor(x, b, text);
            }
        }
        return text.toString();
    }

    private static void market(MarketDesk x, StringBuilder text) {
        int buyers = x.count(false);
        int goods = x.count(true);
        text.append(buyers).append(" buyers ").append(goods).append(" goods ready ").append(x.ready());
        for (int b = 0; b < buyers; b++) {
            text.append(" buyer ").append(x.told(b, -1)).append(':');
            for (int g = 0; g < goods; g++) {
                text.append(x.told(b, g));
            }
        }
    }

    /** The prices; false when there are none, since it is not solved. */
    private static boolean prices(MarketDesk x, StringBuilder text) {
        String first = Check.outcome(() -> x.price(0, false));
        text.append(" price ").append(first);
        if (first.startsWith("throws")) {
            return false;
        }
        for (int g = 0; g < x.count(true); g++) {
            text.append(' ').append(Answers.price(x, g));
        }
        return true;
    }

    private static void solvedFor(MarketDesk x, int buyer, StringBuilder text) {
        text.append(" likes ").append(Answers.likes(x, buyer));
        for (int what = 0; what < 2; what++) {
            text.append(" best ").append(Answers.best(x, buyer, what)).append(" spent");
            for (int g = 0; g < x.count(true); g++) {
                text.append(' ').append(Answers.spent(x, buyer, g, what));
            }
        }
    }
}
