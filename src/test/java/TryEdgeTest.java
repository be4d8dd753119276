/** The boundary cases of promises 16 and 17 that "Terms" does not say already; each method names its promise. */
public final class TryEdgeTest {
    public static void main(String[] args) {
        tryForGoodsThatThereAreNot();
        tryForNoGood();
        tryFromOneToMost();
        tryOfNoPrice();
        tryIsNoChange();
        tryStaysThroughChanges();
        testOnlyWhenReady();
        testOfTheMoneyOfAll();
        testOfTheMoneyOfAllNearly();
        testOfMoneyBeforeSets();
        testOfFairAndNearlyFair();
        testOfTiesNearly();
        testOfTheLeastSet();
        testOfGoodsThatThereAre();
        testOfSumsThatWrap();
        testOfTheLargestNumbers();
        Check.end();
    }

    /** Promise 16: "good 0, 1 or 2", whether there is one or not; the price waits for the good. */
    private static void tryForGoodsThatThereAreNot() {
        MarketDesk x = new MarketDesk();
        Check.done("try for good 0", () -> x.tryPrice(0, 2, 1));
        Check.done("try for good 1", () -> x.tryPrice(1, 3, 1));
        Check.done("try for good 2", () -> x.tryPrice(2, 4, 1));
        x.buyer(9);
        for (int g = 0; g < 3; g++) {
            x.good();
            x.value(0, g, g + 2);
        }
        Check.due("test of what was tried before", 0, () -> x.test());
    }

    /** Promise 16: "IndexOutOfBoundsException: good is not 0 .. 2", however many there are. */
    private static void tryForNoGood() {
        for (int bad : new int[] {-1, 3, Integer.MIN_VALUE, Integer.MAX_VALUE}) {
            Refused.index("try for good " + bad, Desks::full, x -> x.tryPrice(bad, 1, 1));
            Refused.index("try for good " + bad + " of nothing", MarketDesk::new, x -> x.tryPrice(bad, 1, 1));
            Refused.index("try of no price for good " + bad, Desks::full, x -> x.tryPrice(bad, 0, 100001));
        }
    }

    /** Promise 16: "above or below .. 1 .. 100000". */
    private static void tryFromOneToMost() {
        MarketDesk x = Desks.ready(new int[] {1}, new int[][] {{1}});
        Answers.dueTest(x, 0, 1, 1);
        Answers.dueTest(x, 0, 100000, 100000);
        Answers.dueTest(x, -1, 100000, 1);
        Answers.dueTest(x, -1, 1, 100000);
        Answers.dueTest(x, -1, 99999, 100000);
        Answers.dueTest(x, -1, 100000, 99999);
        Answers.dueTest(x, 0, 99999, 99999);
        for (int g = 0; g < 3; g++) {
            int good = g;
            Check.done("the least for good " + g, () -> x.tryPrice(good, 1, 100000));
            Check.done("the most for good " + g, () -> x.tryPrice(good, 100000, 1));
        }
    }

    /** Promise 16: "IllegalArgumentException when above or below is not 1 .. 100000". */
    private static void tryOfNoPrice() {
        for (int bad : new int[] {0, -1, 100001, Integer.MIN_VALUE, Integer.MAX_VALUE}) {
            for (int g = 0; g < 3; g++) {
                int good = g;
                Refused.argument("try above " + bad, Desks::full, x -> x.tryPrice(good, bad, 7));
                Refused.argument("try below " + bad, Desks::full, x -> x.tryPrice(good, 7, bad));
                Refused.argument("try both " + bad, Desks::full, x -> x.tryPrice(good, bad, bad));
            }
        }
        MarketDesk x = new MarketDesk();
        Check.thrown("try above 0 for a good to come", IllegalArgumentException.class, () -> x.tryPrice(0, 0, 1));
        Check.thrown("try below 0 for a good to come", IllegalArgumentException.class, () -> x.tryPrice(0, 2, 0));
        x.buyer(1);
        x.good();
        x.value(0, 0, 1);
        Check.due("test after refused tries", 0, () -> x.test());
    }

    /** Promise 16: "(this is no change of the market)": nothing to undo, nothing undone, what was solved stays. */
    private static void tryIsNoChange() {
        MarketDesk x = new MarketDesk();
        x.tryPrice(0, 6, 1);
        Check.thrown("undo of a try", IllegalStateException.class, () -> x.undo());
        x.buyer(6);
        x.good();
        x.value(0, 0, 3);
        x.solve();
        x.tryPrice(0, 5, 1);
        Answers.duePrice(x, 0, "6/1");
        Answers.dueBest(x, 0, "1/2", "3/1");
        Check.due("test", -1, () -> x.test());
        x.tryPrice(0, 6, 1);
        x.tryPrice(1, 6, 1);
        Check.due("undo of the change before it", 2, () -> x.undo());
        Check.due("value", 0, () -> x.told(0, 0));
        x.value(0, 0, 3);
        Check.due("a try is not undone", 0, () -> x.test());
    }

    /** Promise 16: what is tried is tried for the number of a good: no change, join or undo moves it. */
    private static void tryStaysThroughChanges() {
        MarketDesk x = Desks.ready(new int[] {7}, new int[][] {{1, 2, 4}});
        Answers.dueTest(x, 0, 1, 1, 2, 1, 4, 1);
        x.join(1, 2);
        Check.due("good 1 has the price tried for 1", -1, () -> x.test());
        x.tryPrice(1, 6, 1);
        Check.due("good 1 with another price", 0, () -> x.test());
        x.undo();
        Check.due("the price tried later stays", -1, () -> x.test());
        x.money(0, 11);
        x.value(0, 1, 6);
        Check.due("the price of good 2 is still there", 0, () -> x.test());
        x.undo();
        x.undo();
        x.join(0, 1);
        x.tryPrice(0, 3, 1);
        x.tryPrice(1, 4, 1);
        Check.due("good 2 became good 1", 0, () -> x.test());
    }

    /** Promise 17: "IllegalStateException when it is not READY", in each way not to be. */
    private static void testOnlyWhenReady() {
        Refused.state("test of nothing", MarketDesk::new, x -> x.test());
        Refused.state("test without buyers", () -> Desks.bare(0, 3), x -> x.test());
        Refused.state("test without goods", () -> Desks.bare(3, 0), x -> x.test());
        Refused.state("test without values", () -> Desks.bare(3, 3), x -> x.test());
        Refused.state("test of a good that nobody wants", Desks::fullNotReady, x -> x.test());
        MarketDesk x = Desks.ready(new int[] {1, 1}, new int[][] {{1, 1}, {1, 1}});
        Check.due("test when ready, not solved", 0, () -> x.test());
        x.value(1, 0, 0);
        x.value(1, 1, 0);
        Check.thrown("test of a buyer who wants nothing", IllegalStateException.class, () -> x.test());
        x.undo();
        Check.due("test when ready again", 0, () -> x.test());
    }

    /** Promise 17: "-1 when all together are not the money of all": the least and the most money. */
    private static void testOfTheMoneyOfAll() {
        MarketDesk most = Desks.ready(new int[] {20, 20, 20}, new int[][] {{9}, {9}, {9}});
        Answers.dueTest(most, 0, 60, 1);
        Answers.dueTest(most, 0, 60000, 1000);
        Answers.dueTest(most, -1, 60001, 1000);
        Answers.dueTest(most, -1, 59999, 1000);
        Answers.dueTest(most, -1, 61, 1);
        Answers.dueTest(most, -1, 59, 1);
        MarketDesk one = Desks.ready(new int[] {20}, new int[][] {{1}});
        Answers.dueTest(one, 0, 100000, 5000);
        Answers.dueTest(one, -1, 99999, 5000);
        Answers.dueTest(one, -1, 100000, 4999);
        MarketDesk least = Desks.ready(new int[] {1}, new int[][] {{1, 1, 1}});
        Answers.dueTest(least, 0, 1, 3, 1, 3, 1, 3);
        Answers.dueTest(least, -1, 1, 3, 1, 3, 33333, 100000);
        Answers.dueTest(least, -1, 1, 3, 1, 3, 33334, 100000);
        Answers.dueTest(least, -1, 1, 1, 1, 1, 1, 1);
    }

    /** Promise 17: sums that miss the money by one part of some 10^15, from both sides. */
    private static void testOfTheMoneyOfAllNearly() {
        MarketDesk one = Desks.ready(new int[] {1}, new int[][] {{9, 9, 9}});
        Answers.dueTest(one, -1, 33333, 100000, 50000, 99999, 16666, 99997);
        Answers.dueTest(one, -1, 49999, 99999, 1, 99998, 49998, 99997);
        MarketDesk two = Desks.ready(new int[] {1, 1}, new int[][] {{9, 9, 9}, {9, 9, 9}});
        Answers.dueTest(two, -1, 66667, 100000, 49999, 99999, 83331, 99997);
        Answers.dueTest(two, -1, 49999, 99999, 99999, 99998, 49998, 99997);
        MarketDesk twenty = Desks.ready(new int[] {20}, new int[][] {{9, 9, 9}});
        Answers.dueTest(twenty, -1, 2500, 4999, 4997, 4998, 92445, 4997);
        Answers.dueTest(twenty, -1, 2499, 4999, 1, 4998, 97441, 4997);
    }

    /** Promise 17: the sum comes before the sets: one that is too dear is not told when the sum is not the money. */
    private static void testOfMoneyBeforeSets() {
        MarketDesk x = Desks.ready(new int[] {5, 5}, new int[][] {{1, 0}, {0, 1}});
        Answers.dueTest(x, -1, 6, 1, 5, 1);
        Answers.dueTest(x, -1, 6, 1, 3, 1);
        Answers.dueTest(x, 1, 6, 1, 4, 1);
        Answers.dueTest(x, -1, 4, 1, 5, 1);
    }

    /** Promise 17: "0 when they are FAIR", with each set as dear as it may be; one part of 100000 beside is not. */
    private static void testOfFairAndNearlyFair() {
        MarketDesk x = Desks.ready(new int[] {1, 1}, new int[][] {{1, 0}, {0, 1}});
        Answers.dueTest(x, 0, 1, 1, 1, 1);
        Answers.dueTest(x, 0, 99999, 99999, 100000, 100000);
        Answers.dueTest(x, 1, 100000, 99999, 99998, 99999);
        Answers.dueTest(x, 2, 99998, 99999, 100000, 99999);
        MarketDesk solved = Desks.solved(new int[] {20, 20, 20}, new int[][] {{8, 9, 7}, {0, 8, 9}, {0, 6, 7}});
        Answers.dueTest(solved, 0, 3840, 217, 4320, 217, 4860, 217);
        Answers.dueTest(solved, 0, 99840, 5642, 99360, 4991, 97200, 4340);
        Answers.dueTest(solved, 1, 3841, 217, 4319, 217, 4860, 217);
        Answers.dueTest(solved, 2, 3840, 217, 4321, 217, 4859, 217);
        Answers.dueTest(solved, 1, 3840, 217, 4319, 217, 4861, 217);
        Answers.dueTest(solved, 4, 3839, 217, 4320, 217, 4861, 217);
    }

    /** Promise 17: a buyer likes the cheaper of two goods alone, though by one part of 100000; then the other too. */
    private static void testOfTiesNearly() {
        MarketDesk x = Desks.ready(new int[] {2}, new int[][] {{9, 9}});
        Answers.dueTest(x, 0, 1, 1, 1, 1);
        Answers.dueTest(x, 1, 100000, 99999, 99998, 99999);
        Answers.dueTest(x, 2, 99998, 99999, 100000, 99999);
        MarketDesk ratio = Desks.ready(new int[] {17}, new int[][] {{9, 8}});
        Answers.dueTest(ratio, 0, 9, 1, 8, 1);
        Answers.dueTest(ratio, 0, 99999, 11111, 88888, 11111);
        Answers.dueTest(ratio, 1, 90001, 10000, 79999, 10000);
        Answers.dueTest(ratio, 2, 89999, 10000, 80001, 10000);
    }

    /** Promise 17: "the least sum of 1 << good of a set that is TOO DEAR": each that can be, alone and of several. */
    private static void testOfTheLeastSet() {
        int[] fives = {5, 5, 5};
        int[][] own = {{1, 0, 0}, {0, 1, 0}, {0, 0, 1}};
        Answers.dueTest(Desks.ready(fives, own), 1, 6, 1, 5, 1, 4, 1);
        Answers.dueTest(Desks.ready(fives, own), 2, 5, 1, 6, 1, 4, 1);
        Answers.dueTest(Desks.ready(fives, own), 4, 5, 1, 4, 1, 6, 1);
        // Sets 1, 2 and 3; sets 1, 4 and 5; sets 2, 4 and 6.
        Answers.dueTest(Desks.ready(fives, own), 1, 6, 1, 6, 1, 3, 1);
        Answers.dueTest(Desks.ready(fives, own), 1, 6, 1, 3, 1, 6, 1);
        Answers.dueTest(Desks.ready(fives, own), 2, 3, 1, 6, 1, 6, 1);
        // A pair alone, none of the two by itself.
        Answers.dueTest(Desks.ready(fives, new int[][] {{1, 1, 0}, {1, 1, 0}, {0, 0, 1}}), 3, 6, 1, 6, 1, 3, 1);
        Answers.dueTest(Desks.ready(fives, new int[][] {{1, 0, 1}, {1, 0, 1}, {0, 1, 0}}), 5, 6, 1, 3, 1, 6, 1);
        Answers.dueTest(Desks.ready(fives, new int[][] {{0, 1, 1}, {0, 1, 1}, {1, 0, 0}}), 6, 3, 1, 6, 1, 6, 1);
        // A good that nobody likes at its price, however little that is.
        MarketDesk nobody = Desks.ready(new int[] {20}, new int[][] {{1, 9, 9}});
        Answers.dueTest(nobody, 1, 2, 1, 9, 1, 9, 1);
        Answers.dueTest(nobody, 0, 20, 19, 180, 19, 180, 19);
    }

    /** Promise 17: "for the goods that there are": what is tried for others does not count. */
    private static void testOfGoodsThatThereAre() {
        MarketDesk x = Desks.ready(new int[] {7}, new int[][] {{1}});
        Answers.dueTest(x, 0, 7, 1, 100000, 1, 1, 99999);
        x.good();
        x.value(0, 1, 1);
        Answers.dueTest(x, -1, 7, 2);
        Answers.dueTest(x, 0, 7, 2, 7, 2, 99999, 100000);
        x.good();
        x.value(0, 2, 1);
        Check.due("all three count", -1, () -> x.test());
        x.undo();
        x.undo();
        Check.due("two count", 0, () -> x.test());
    }

    /** Promise 17: sums that differ by whole numbers of 2^32 parts, so that an int could not tell them apart. */
    private static void testOfSumsThatWrap() {
        MarketDesk x = Desks.ready(new int[] {1}, new int[][] {{1, 1}});
        Answers.dueTest(x, -1, 65536, 65536, 65536, 65536);
        Answers.dueTest(x, 0, 32768, 65536, 32768, 65536);
        x.good();
        x.value(0, 2, 2);
        Answers.dueTest(x, -1, 65536, 65536, 65536, 65536, 65536, 65536);
        Answers.dueTest(x, 0, 16384, 65536, 16384, 65536, 32768, 65536);
    }

    /** Promise 17: the largest numbers above and below the line together. */
    private static void testOfTheLargestNumbers() {
        int[][] nines = {{9, 9, 9}, {9, 9, 9}, {9, 9, 9}};
        MarketDesk x = Desks.ready(new int[] {20, 20, 20}, nines);
        Answers.dueTest(x, -1, 100000, 1, 100000, 1, 100000, 1);
        Answers.dueTest(x, -1, 1, 100000, 1, 100000, 1, 100000);
        Answers.dueTest(x, -1, 100000, 100000, 100000, 100000, 100000, 100000);
        Answers.dueTest(x, -1, 100000, 1, 1, 100000, 100000, 99999);
        Answers.dueTest(x, 0, 99980, 4999, 99960, 4998, 99940, 4997);
        Answers.dueTest(x, 1, 99981, 4999, 99979, 4999, 20, 1);
        MarketDesk y = Desks.ready(new int[] {1, 1, 1}, nines);
        Answers.dueTest(y, 0, 100000, 100000, 99999, 99999, 99998, 99998);
        Answers.dueTest(y, 1, 99999, 99998, 99997, 99998, 100000, 100000);
        Answers.dueTest(y, 2, 99998, 99999, 99999, 99999, 100000, 99999);
        Answers.dueTest(y, 4, 49998, 49999, 49998, 49999, 50001, 49999);
    }
}
