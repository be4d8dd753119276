/**
 * The boundary cases of "Terms", each method for the sentence that it quotes. ChangesEdgeTest has what it says of
 * changes and of undo, RefusedEdgeTest what it says of exceptions.
 */
public final class TermsEdgeTest {
    public static void main(String[] args) {
        buyersAreThreeAtMost();
        goodsAreThreeAtMost();
        moneyIsOneToTwenty();
        valueIsNoneToNine();
        valueIsNoneAtFirst();
        readyJustSo();
        wholeNumbersHaveOneBelow();
        lowestTerms();
        largestTerms();
        bestIsTheGreatest();
        likesWhatIsTheBest();
        fairWhenAllIsSpent();
        divisionByBuyersThenGoods();
        tooDearIfMore();
        Check.end();
    }

    /** "BUYERS are numbered 0, 1, .. , 3 at most". */
    private static void buyersAreThreeAtMost() {
        MarketDesk x = new MarketDesk();
        for (int b = 0; b < 3; b++) {
            Check.due("buyers before", b, () -> x.count(false));
            Check.due("a buyer", b, () -> x.buyer(1));
        }
        Check.due("buyers", 3, () -> x.count(false));
        Refused.unsupported("a fourth buyer", () -> Desks.bare(3, 0), desk -> desk.buyer(1));
        Refused.unsupported("a fourth buyer beside goods", Desks::full, desk -> desk.buyer(20));
    }

    /** "GOODS are 0, 1, .. , 3 at most". */
    private static void goodsAreThreeAtMost() {
        MarketDesk x = new MarketDesk();
        for (int g = 0; g < 3; g++) {
            Check.due("goods before", g, () -> x.count(true));
            Check.due("a good", g, () -> x.good());
        }
        Check.due("goods", 3, () -> x.count(true));
        Refused.unsupported("a fourth good", () -> Desks.bare(0, 3), desk -> desk.good());
        Refused.unsupported("a fourth good beside buyers", Desks::full, desk -> desk.good());
    }

    /** "with MONEY, 1 .. 20". */
    private static void moneyIsOneToTwenty() {
        for (int money = 1; money <= 20; money++) {
            int due = money;
            MarketDesk x = new MarketDesk();
            x.buyer(due);
            Check.due("money of a new buyer", due, () -> x.told(0, -1));
            x.buyer(7);
            x.money(1, due);
            Check.due("money said anew", due, () -> x.told(1, -1));
        }
        for (int bad : new int[] {0, 21, -1, Integer.MIN_VALUE, Integer.MAX_VALUE}) {
            Refused.argument("a buyer with " + bad, Desks::small, x -> x.buyer(bad));
            Refused.argument("money " + bad, Desks::full, x -> x.money(2, bad));
        }
    }

    /** "A buyer has a VALUE for each good, 0 .. 9". */
    private static void valueIsNoneToNine() {
        MarketDesk x = Desks.bare(3, 3);
        for (int i = 0; i < 90; i++) {
            int b = i % 3;
            int g = i / 3 % 3;
            int due = i / 9;
            x.value(b, g, due);
            Check.due("value of " + b + " for " + g, due, () -> x.told(b, g));
        }
        for (int bad : new int[] {-1, 10, Integer.MIN_VALUE, Integer.MAX_VALUE}) {
            Refused.argument("value " + bad, Desks::full, desk -> desk.value(0, 0, bad));
            Refused.argument("value " + bad + " of the last", Desks::full, desk -> desk.value(2, 2, bad));
        }
    }

    /** "(at first 0)": also where another value stood before undo, or of a good that was joined. */
    private static void valueIsNoneAtFirst() {
        MarketDesk x = Desks.bare(3, 3);
        MarketDesk y = Desks.bare(0, 3);
        for (int b = 0; b < 3; b++) {
            y.buyer(20);
        }
        for (int i = 0; i < 9; i++) {
            int b = i / 3;
            int g = i % 3;
            Check.due("value for a new good", 0, () -> x.told(b, g));
            Check.due("value of a new buyer", 0, () -> y.told(b, g));
        }
        MarketDesk again = Desks.bare(1, 0);
        for (int round = 0; round < 20; round++) {
            again.good();
            Check.due("value for a good made again", 0, () -> again.told(0, 0));
            again.value(0, 0, 9);
            again.undo();
            again.undo();
        }
        MarketDesk buyers = Desks.bare(0, 1);
        for (int round = 0; round < 20; round++) {
            buyers.buyer(1);
            Check.due("value of a buyer made again", 0, () -> buyers.told(0, 0));
            buyers.value(0, 0, 9);
            buyers.undo();
            buyers.undo();
        }
        MarketDesk joined = Desks.ready(new int[] {1, 1, 1}, new int[][] {{1, 2, 3}, {1, 2, 3}, {1, 2, 3}});
        joined.join(1, 2);
        joined.good();
        for (int b = 0; b < 3; b++) {
            int buyer = b;
            Check.due("value for a good in the place of a joined one", 0, () -> joined.told(buyer, 2));
        }
    }

    /** "It is READY, if there is a buyer and a good, each buyer has a value above 0 for some good, ..". */
    private static void readyJustSo() {
        MarketDesk least = Desks.ready(new int[] {1}, new int[][] {{1}});
        Check.due("one buyer, one good, value 1", 0, () -> least.ready());
        least.value(0, 0, 0);
        Check.due("value 0", 10, () -> least.ready());
        // Each buyer, and each good, hangs on one value of 1 alone.
        for (int lost = 0; lost < 3; lost++) {
            int[][] ones = {{0, 0, 1}, {1, 0, 0}, {0, 1, 0}};
            MarketDesk x = Desks.ready(new int[] {1, 1, 1}, ones);
            Check.due("a value of 1 each", 0, () -> x.ready());
            Check.done("solve", () -> x.solve());
            int buyer = lost;
            x.value(buyer, (buyer + 2) % 3, 0);
            Check.due("without the one of " + buyer, 10 + buyer, () -> x.ready());
            x.value(buyer, buyer, 1);
            Check.due("with another", 20 + (buyer + 2) % 3, () -> x.ready());
        }
    }

    /** "(1 below for whole numbers, also for 0)". */
    private static void wholeNumbersHaveOneBelow() {
        MarketDesk x = Desks.solved(new int[] {20, 3}, new int[][] {{9, 1}, {0, 9}});
        Check.due("a whole price", "20/1", () -> Answers.price(x, 0));
        Check.due("a whole best", "3/1", () -> Answers.best(x, 1, 0));
        Check.due("a best that is whole times the money", "9/1", () -> Answers.best(x, 0, 1));
        Check.due("all spent", "20/1", () -> Answers.spent(x, 0, 0, 0));
        Check.due("all of a good", "1/1", () -> Answers.spent(x, 0, 0, 1));
        Check.due("nothing spent on what is of value", "0/1", () -> Answers.spent(x, 0, 1, 0));
        Check.due("nothing of what is of value", "0/1", () -> Answers.spent(x, 0, 1, 1));
        Check.due("nothing spent on what is of no value", "0/1", () -> Answers.spent(x, 1, 0, 0));
        Check.due("nothing of what is of no value", "0/1", () -> Answers.spent(x, 1, 0, 1));
        // Prices 1/3 and 2/3: nothing is told in parts of 3 that is not of such parts.
        MarketDesk y = Desks.solved(new int[] {1, 20}, new int[][] {{1, 2, 0}, {0, 0, 4}});
        Check.due("nothing spent where prices are not whole", "0/1", () -> Answers.spent(y, 1, 0, 0));
        Check.due("nothing of what has no whole price", "0/1", () -> Answers.spent(y, 1, 1, 1));
        Check.due("all of what has no whole price", "1/1", () -> Answers.spent(y, 0, 1, 1));
        Check.due("a whole price beside one that is not", "20/1", () -> Answers.price(y, 2));
    }

    /** "All numbers told are fractions in lowest terms". */
    private static void lowestTerms() {
        MarketDesk x = Desks.solved(new int[] {20}, new int[][] {{9, 6, 3}});
        Check.due("price", "10/1", () -> Answers.price(x, 0));
        Check.due("price", "20/3", () -> Answers.price(x, 1));
        Check.due("price", "10/3", () -> Answers.price(x, 2));
        Check.due("best", "9/10", () -> Answers.best(x, 0, 0));
        Check.due("best times money", "18/1", () -> Answers.best(x, 0, 1));
        MarketDesk y = Desks.solved(new int[] {2, 4}, new int[][] {{6}, {4}});
        Check.due("part", "1/3", () -> Answers.spent(y, 0, 0, 1));
        Check.due("part", "2/3", () -> Answers.spent(y, 1, 0, 1));
        Check.due("best", "2/3", () -> Answers.best(y, 1, 0));
        Check.due("best times money", "8/3", () -> Answers.best(y, 1, 1));
    }

    /** The prices are as 64 : 72 : 81, which sum up to 217: as many parts as there can be. */
    private static void largestTerms() {
        MarketDesk x = Desks.solved(new int[] {20, 20, 20}, new int[][] {{8, 9, 7}, {0, 8, 9}, {0, 6, 7}});
        Check.due("price", "3840/217", () -> Answers.price(x, 0));
        Check.due("price", "4320/217", () -> Answers.price(x, 1));
        Check.due("price", "4860/217", () -> Answers.price(x, 2));
        Check.due("best", "217/480", () -> Answers.best(x, 0, 0));
        Check.due("best", "1519/4860", () -> Answers.best(x, 2, 0));
        Check.due("best times money", "217/24", () -> Answers.best(x, 0, 1));
        Check.due("best times money", "1519/243", () -> Answers.best(x, 2, 1));
        Check.due("spent", "500/217", () -> Answers.spent(x, 0, 1, 0));
        Check.due("spent", "3820/217", () -> Answers.spent(x, 1, 1, 0));
        Check.due("spent", "520/217", () -> Answers.spent(x, 1, 2, 0));
        Check.due("part", "25/216", () -> Answers.spent(x, 0, 1, 1));
        Check.due("part", "191/216", () -> Answers.spent(x, 1, 1, 1));
        Check.due("part", "26/243", () -> Answers.spent(x, 1, 2, 1));
        Check.due("part", "217/243", () -> Answers.spent(x, 2, 2, 1));
    }

    /** "THE BEST of a buyer is the greatest value / price of all goods." */
    private static void bestIsTheGreatest() {
        // The prices are 1, 10 and 20, each paid by one buyer; the good that is the best stands first, between, last.
        MarketDesk x = Desks.solved(new int[] {1, 10, 20}, new int[][] {{9, 9, 9}, {0, 9, 9}, {0, 1, 9}});
        Check.due("best by good 0", "9/1", () -> Answers.best(x, 0, 0));
        Check.due("best by good 1", "9/10", () -> Answers.best(x, 1, 0));
        Check.due("best by good 2", "9/20", () -> Answers.best(x, 2, 0));
        // A great value for a great price is less than a small one for a small price.
        MarketDesk y = Desks.solved(new int[] {1, 20}, new int[][] {{1, 9}, {0, 1}});
        Check.due("best by the smaller value", "1/1", () -> Answers.best(y, 0, 0));
        MarketDesk all = Desks.solved(new int[] {18}, new int[][] {{1, 3, 5}});
        Check.due("best by all goods", "1/2", () -> Answers.best(all, 0, 0));
    }

    /** "A buyer LIKES a good, if value / price of it is the best." */
    private static void likesWhatIsTheBest() {
        // Prices 8 and 9: buyer 0 has just as much of both, and spends nothing on good 1.
        MarketDesk even = Desks.solved(new int[] {8, 9}, new int[][] {{8, 9}, {0, 1}});
        Check.due("as good as the best", "11", () -> Answers.likes(even, 0));
        Check.due("of no value", "01", () -> Answers.likes(even, 1));
        Check.due("liked but not bought", "0/1", () -> Answers.spent(even, 0, 1, 0));
        MarketDesk less = Desks.solved(new int[] {8, 9}, new int[][] {{8, 8}, {0, 1}});
        Check.due("a little less than the best", "10", () -> Answers.likes(less, 0));
        MarketDesk more = Desks.solved(new int[] {9, 9}, new int[][] {{8, 9}, {0, 1}});
        Check.due("a price that rose to the best", "11", () -> Answers.likes(more, 0));
        Check.due("the price", "144/17", () -> Answers.price(more, 0));
        MarketDesk least = Desks.solved(new int[] {20, 19, 18}, new int[][] {{9, 8, 8}, {8, 9, 8}, {8, 8, 9}});
        Check.due("next to each other", "100", () -> Answers.likes(least, 0));
        Check.due("next to each other", "010", () -> Answers.likes(least, 1));
        Check.due("next to each other", "001", () -> Answers.likes(least, 2));
    }

    /** "Prices are FAIR, if .. each spends all of it, .. and on each good just its price is spent." */
    private static void fairWhenAllIsSpent() {
        // Buyer 0 has just enough for good 0 alone, in the second market one too much: both prices move.
        MarketDesk just = Desks.solved(new int[] {5, 10}, new int[][] {{1, 2}, {0, 9}});
        Check.due("price", "5/1", () -> Answers.price(just, 0));
        Check.due("spent", "0/1", () -> Answers.spent(just, 0, 1, 0));
        MarketDesk over = Desks.solved(new int[] {6, 10}, new int[][] {{1, 2}, {0, 9}});
        Check.due("price", "16/3", () -> Answers.price(over, 0));
        Check.due("price", "32/3", () -> Answers.price(over, 1));
        Check.due("the rest", "2/3", () -> Answers.spent(over, 0, 1, 0));
        MarketDesk under = Desks.solved(new int[] {4, 10}, new int[][] {{1, 2}, {0, 9}});
        Check.due("price", "4/1", () -> Answers.price(under, 0));
        Check.due("price", "10/1", () -> Answers.price(under, 1));
        Check.due("not liked", "10", () -> Answers.likes(under, 0));
    }

    /** "THE DIVISION is that .. in which buyer 0 spends most on good 0, .. by buyers, and of one buyer by goods." */
    private static void divisionByBuyersThenGoods() {
        int[][] nines = {{9, 9, 9}, {9, 9, 9}, {9, 9, 9}};
        MarketDesk same = Desks.solved(new int[] {20, 20, 20}, nines);
        MarketDesk rising = Desks.solved(new int[] {1, 1, 19}, nines);
        MarketDesk falling = Desks.solved(new int[] {19, 1, 1}, nines);
        String[] dueSame = {"20/1 0/1 0/1", "0/1 20/1 0/1", "0/1 0/1 20/1"};
        String[] dueRising = {"1/1 0/1 0/1", "1/1 0/1 0/1", "5/1 7/1 7/1"};
        String[] dueFalling = {"7/1 7/1 5/1", "0/1 0/1 1/1", "0/1 0/1 1/1"};
        for (int b = 0; b < 3; b++) {
            int buyer = b;
            Check.due("same money", dueSame[b], () -> spending(same, buyer));
            Check.due("rising money", dueRising[b], () -> spending(rising, buyer));
            Check.due("falling money", dueFalling[b], () -> spending(falling, buyer));
        }
        // Only buyer 0 likes good 2, and has just its price: nothing is left for goods 0 and 1.
        MarketDesk last = Desks.solved(new int[] {4, 4, 4}, new int[][] {{1, 1, 1}, {1, 1, 0}, {1, 1, 0}});
        Check.due("most on good 0 is nothing", "0/1 0/1 4/1", () -> spending(last, 0));
        Check.due("then buyer 1 on good 0", "4/1 0/1 0/1", () -> spending(last, 1));
    }

    private static String spending(MarketDesk x, int buyer) {
        String first = Answers.spent(x, buyer, 0, 0);
        return first + " " + Answers.spent(x, buyer, 1, 0) + " " + Answers.spent(x, buyer, 2, 0);
    }

    /** "A SET of goods is TOO DEAR .., if their prices together are more than the money": just as much is not. */
    private static void tooDearIfMore() {
        MarketDesk x = Desks.ready(new int[] {4, 7, 9}, new int[][] {{1, 0, 0}, {0, 1, 0}, {0, 0, 1}});
        x.tryPrice(0, 4, 1);
        x.tryPrice(1, 7, 1);
        x.tryPrice(2, 9, 1);
        Check.due("each set just as dear as the money", 0, () -> x.test());
        x.tryPrice(0, 40001, 10000);
        x.tryPrice(1, 69999, 10000);
        Check.due("good 0 a little more", 1, () -> x.test());
        x.tryPrice(0, 39999, 10000);
        x.tryPrice(1, 70001, 10000);
        Check.due("good 1 a little more", 2, () -> x.test());
        x.tryPrice(1, 7, 1);
        x.tryPrice(2, 90001, 10000);
        Check.due("good 2 a little more", 4, () -> x.test());
    }
}
