/** The boundary cases of promises 11 to 15 that "Terms" does not say already; each method names its promise. */
public final class SolveEdgeTest {
    private static final int[] NO_WHAT = {-1, 2, 3, Integer.MIN_VALUE, Integer.MAX_VALUE};

    public static void main(String[] args) {
        solveOfTheLeast();
        solveOfTheMost();
        solveBetweenFewAndMany();
        solveOfWhatIsNotReady();
        solveOnceMore();
        solveOfHalfWants();
        priceOnlyWhenSolved();
        priceOfEachGood();
        bestOnlyWhenSolved();
        bestOfWhat();
        bestTimesMoney();
        likesOnlyWhenSolved();
        likesOfOneGood();
        spentOnlyWhenSolved();
        spentOfWhat();
        spentFromNoneToAll();
        Check.end();
    }

    /** Promise 11: one buyer, one good, the least money, the least value; then the most of both. */
    private static void solveOfTheLeast() {
        for (int money : new int[] {1, 20}) {
            for (int value : new int[] {1, 9}) {
                MarketDesk x = Desks.solved(new int[] {money}, new int[][] {{value}});
                Answers.duePrice(x, 0, money + "/1");
                Answers.dueSpent(x, 0, 0, money + "/1", "1/1");
                Check.due("all of the buyer", value + "/1", () -> Answers.best(x, 0, 1));
                Answers.dueLikes(x, 0, "1");
            }
        }
    }

    /** Promise 11: three buyers and three goods, all money 20, all values 9; and all money and values 1. */
    private static void solveOfTheMost() {
        MarketDesk most = Desks.solved(new int[] {20, 20, 20}, new int[][] {{9, 9, 9}, {9, 9, 9}, {9, 9, 9}});
        MarketDesk least = Desks.solved(new int[] {1, 1, 1}, new int[][] {{1, 1, 1}, {1, 1, 1}, {1, 1, 1}});
        for (int i = 0; i < 3; i++) {
            Answers.duePrice(most, i, "20/1");
            Answers.dueBest(most, i, "9/20", "9/1");
            Answers.dueLikes(most, i, "111");
            Answers.dueSpent(most, i, i, "20/1", "1/1");
            Answers.duePrice(least, i, "1/1");
            Answers.dueBest(least, i, "1/1", "1/1");
            Answers.dueSpent(least, i, i, "1/1", "1/1");
        }
        // The least money beside the most, the least value beside the most.
        MarketDesk wide = Desks.solved(new int[] {1, 20}, new int[][] {{1, 9, 0}, {9, 1, 1}});
        Answers.duePrice(wide, 0, "189/11");
        Answers.duePrice(wide, 1, "21/11");
        Answers.duePrice(wide, 2, "21/11");
        Answers.dueLikes(wide, 0, "010");
        Answers.dueLikes(wide, 1, "111");
        Answers.dueSpent(wide, 1, 1, "10/11", "10/21");
    }

    /** Promise 11: one buyer for three goods, three buyers for one good. */
    private static void solveBetweenFewAndMany() {
        MarketDesk goods = Desks.solved(new int[] {1}, new int[][] {{9, 9, 1}});
        Answers.duePrice(goods, 0, "9/19");
        Answers.duePrice(goods, 1, "9/19");
        Answers.duePrice(goods, 2, "1/19");
        Answers.dueBest(goods, 0, "19/1", "19/1");
        Answers.dueSpent(goods, 0, 2, "1/19", "1/1");
        MarketDesk buyers = Desks.solved(new int[] {20, 1, 20}, new int[][] {{1}, {9}, {1}});
        Answers.duePrice(buyers, 0, "41/1");
        Answers.dueBest(buyers, 1, "9/41", "9/41");
        Answers.dueSpent(buyers, 1, 0, "1/1", "1/41");
        Answers.dueSpent(buyers, 2, 0, "20/1", "20/41");
    }

    /** Promise 11: "IllegalStateException when it is not READY", in each way not to be; then it is not solved. */
    private static void solveOfWhatIsNotReady() {
        Refused.state("solve of nothing", MarketDesk::new, x -> x.solve());
        Refused.state("solve without buyers", () -> Desks.bare(0, 3), x -> x.solve());
        Refused.state("solve without goods", () -> Desks.bare(3, 0), x -> x.solve());
        Refused.state("solve without values", () -> Desks.bare(3, 3), x -> x.solve());
        for (int i = 0; i < 3; i++) {
            int[][] noBuyer = {{1, 1, 1}, {1, 1, 1}, {1, 1, 1}};
            noBuyer[i] = new int[3];
            Refused.state("solve without buyer " + i, () -> Desks.ready(new int[] {1, 2, 3}, noBuyer), x -> x.solve());
            int[][] noGood = {{1, 1, 1}, {1, 1, 1}, {1, 1, 1}};
            for (int[] row : noGood) {
                row[i] = 0;
            }
            Refused.state("solve without good " + i, () -> Desks.ready(new int[] {1, 2, 3}, noGood), x -> x.solve());
        }
        MarketDesk x = Desks.solved(new int[] {3}, new int[][] {{1}});
        x.value(0, 0, 0);
        Check.thrown("solve of what was ready", IllegalStateException.class, () -> x.solve());
        Check.thrown("price then", IllegalStateException.class, () -> x.price(0, false));
        x.value(0, 0, 2);
        Check.thrown("price before it is solved anew", IllegalStateException.class, () -> x.price(0, false));
        Check.done("solve anew", () -> x.solve());
        Answers.dueBest(x, 0, "2/3", "2/1");
    }

    /** Promise 11: to solve what is solved changes nothing, and is no change. */
    private static void solveOnceMore() {
        MarketDesk x = Desks.full();
        Check.done("solve once more", () -> x.solve());
        Check.same("solved once more", Picture.whole(Desks.full()), Picture.whole(x));
    }

    /** Promise 11: buyers who share no good; a buyer who wants what nobody else wants. */
    private static void solveOfHalfWants() {
        MarketDesk apart = Desks.solved(new int[] {1, 20, 9}, new int[][] {{9, 0, 0}, {0, 0, 1}, {0, 4, 0}});
        Answers.duePrice(apart, 0, "1/1");
        Answers.duePrice(apart, 1, "9/1");
        Answers.duePrice(apart, 2, "20/1");
        Answers.dueBest(apart, 1, "1/20", "1/1");
        Answers.dueSpent(apart, 2, 1, "9/1", "1/1");
        // Good 0 hangs on buyer 2 alone, for whom its value is least: it still takes its part of the money.
        MarketDesk least = Desks.solved(new int[] {20, 20, 1}, new int[][] {{0, 9, 9}, {0, 9, 9}, {1, 9, 9}});
        Answers.duePrice(least, 0, "1/1");
        Answers.dueLikes(least, 2, "100");
        Answers.duePrice(least, 1, "20/1");
        // With money 20 good 0 is as dear as its value for buyer 2 lets it be.
        MarketDesk rich = Desks.solved(new int[] {1, 1, 20}, new int[][] {{0, 9, 9}, {0, 9, 9}, {1, 9, 9}});
        Answers.duePrice(rich, 0, "22/19");
        Answers.duePrice(rich, 1, "198/19");
        Answers.dueLikes(rich, 2, "111");
        Answers.dueSpent(rich, 0, 1, "1/1", "19/198");
        Answers.dueSpent(rich, 1, 1, "1/1", "19/198");
        Answers.dueSpent(rich, 2, 1, "160/19", "80/99");
    }

    /** Promise 12: "IllegalStateException when it is not SOLVED": never yet, and not any more. */
    private static void priceOnlyWhenSolved() {
        Refused.state("price of nothing", MarketDesk::new, x -> x.price(0, false));
        Refused.state("price of what is not ready", Desks::fullNotReady, x -> x.price(0, true));
        Refused.state("price not any more", Desks::fullUnsolved, x -> x.price(2, true));
        MarketDesk x = Desks.full();
        Check.due("price when solved", 20, () -> x.price(2, false));
    }

    /** Promise 12: each good has its own, both sides of the line. */
    private static void priceOfEachGood() {
        MarketDesk x = Desks.solved(new int[] {20}, new int[][] {{9, 8, 6}});
        String[] due = {"180/23", "160/23", "120/23"};
        for (int g = 0; g < 3; g++) {
            Answers.duePrice(x, g, due[g]);
        }
    }

    /** Promise 13: "IllegalStateException when it is not SOLVED". */
    private static void bestOnlyWhenSolved() {
        Refused.state("best of nothing", MarketDesk::new, x -> x.best(0, 0, false));
        Refused.state("best of what is not ready", Desks::fullNotReady, x -> x.best(0, 1, true));
        Refused.state("best not any more", Desks::fullUnsolved, x -> x.best(2, 1, false));
        MarketDesk x = Desks.full();
        Check.due("best when solved", 5, () -> x.best(2, 0, true));
    }

    /** Promise 13: "IndexOutOfBoundsException also when what is not 0 or 1". */
    private static void bestOfWhat() {
        for (int bad : NO_WHAT) {
            Refused.index("best of what " + bad, Desks::full, x -> x.best(2, bad, false));
            Refused.index("best of what " + bad + " for no buyer", Desks::full, x -> x.best(3, bad, true));
            Refused.state("best of what " + bad + ", not solved", Desks::fullUnsolved, x -> x.best(0, bad, false));
        }
        Refused.index("best of no buyer", Desks::full, x -> x.best(3, 1, true));
        MarketDesk x = Desks.full();
        Answers.dueBest(x, 0, "9/4", "9/1");
        Answers.dueBest(x, 2, "2/5", "8/1");
    }

    /** Promise 13: "times the money, what the buyer has of all": with money 1 the same, with 20 in lowest terms. */
    private static void bestTimesMoney() {
        MarketDesk x = Desks.solved(new int[] {1, 20, 3}, new int[][] {{7}, {7}, {8}});
        Answers.dueBest(x, 0, "7/24", "7/24");
        Answers.dueBest(x, 1, "7/24", "35/6");
        Answers.dueBest(x, 2, "1/3", "1/1");
    }

    /** Promise 14: "IllegalStateException when it is not SOLVED". */
    private static void likesOnlyWhenSolved() {
        Refused.state("likes of nothing", MarketDesk::new, x -> x.likes(0, 0));
        Refused.state("likes of what is not ready", Desks::fullNotReady, x -> x.likes(0, 0));
        Refused.state("likes not any more", Desks::fullUnsolved, x -> x.likes(0, 0));
        MarketDesk x = Desks.full();
        Check.due("likes when solved", true, () -> x.likes(0, 0));
    }

    /** Promise 14: a good of no value is not liked; what is liked at the prices need not be so at those tried. */
    private static void likesOfOneGood() {
        MarketDesk x = Desks.full();
        for (int b = 0; b < 3; b++) {
            Answers.dueLikes(x, b, new String[] {"100", "010", "001"}[b]);
        }
        x.tryPrice(0, 100000, 1);
        Answers.dueLikes(x, 0, "100");
        Refused.index("likes of no buyer", Desks::full, desk -> desk.likes(3, 0));
        Refused.index("likes of no good", Desks::full, desk -> desk.likes(0, 3));
        Refused.index("likes of good -1", Desks::full, desk -> desk.likes(0, -1));
    }

    /** Promise 15: "IllegalStateException when it is not SOLVED". */
    private static void spentOnlyWhenSolved() {
        Refused.state("spent of nothing", MarketDesk::new, x -> x.spent(0, 0, 0, false));
        Refused.state("spent of what is not ready", Desks::fullNotReady, x -> x.spent(0, 0, 1, true));
        Refused.state("spent not any more", Desks::fullUnsolved, x -> x.spent(2, 2, 0, false));
        MarketDesk x = Desks.full();
        Check.due("spent when solved", 20, () -> x.spent(2, 2, 0, false));
    }

    /** Promise 15: "IndexOutOfBoundsException also when what is not 0 or 1". */
    private static void spentOfWhat() {
        for (int bad : NO_WHAT) {
            Refused.index("spent of what " + bad, Desks::full, x -> x.spent(2, 2, bad, false));
            Refused.index("spent of what " + bad + " by nobody", Desks::full, x -> x.spent(3, 2, bad, false));
            Refused.index("spent of what " + bad + " on nothing", Desks::full, x -> x.spent(2, 3, bad, true));
            Refused.state("spent of what " + bad + ", not solved", Desks::fullUnsolved,
                x -> x.spent(0, 0, bad, false));
        }
        Refused.index("spent by nobody", Desks::full, x -> x.spent(3, 0, 1, true));
        Refused.index("spent on nothing", Desks::full, x -> x.spent(0, 3, 1, true));
        Refused.index("spent on good -1", Desks::full, x -> x.spent(0, -1, 0, true));
    }

    /** Promise 15: "or how much of it that is": from 0 to 1, where the price is more, and less, than 1. */
    private static void spentFromNoneToAll() {
        MarketDesk x = Desks.solved(new int[] {2, 1}, new int[][] {{1, 1, 1}, {1, 1, 1}});
        Answers.dueSpent(x, 0, 0, "1/1", "1/1");
        Answers.dueSpent(x, 0, 2, "0/1", "0/1");
        Answers.dueSpent(x, 1, 1, "0/1", "0/1");
        Answers.dueSpent(x, 1, 2, "1/1", "1/1");
        MarketDesk cheap = Desks.solved(new int[] {1, 1}, new int[][] {{1, 1, 1}, {1, 1, 1}});
        Answers.dueSpent(cheap, 0, 0, "2/3", "1/1");
        Answers.dueSpent(cheap, 0, 1, "1/3", "1/2");
        Answers.dueSpent(cheap, 1, 1, "1/3", "1/2");
        Answers.dueSpent(cheap, 1, 0, "0/1", "0/1");
        MarketDesk dear = Desks.solved(new int[] {19, 20}, new int[][] {{5}, {1}});
        Answers.dueSpent(dear, 0, 0, "19/1", "19/39");
        Answers.dueSpent(dear, 1, 0, "20/1", "20/39");
    }
}
