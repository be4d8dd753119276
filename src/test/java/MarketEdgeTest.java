/** The boundary cases of promises 1 to 10 that "Terms" does not say already; each method names its promise. */
public final class MarketEdgeTest {
    public static void main(String[] args) {
        newObjectIsEmpty();
        newObjectTriesOnes();
        newObjectIsNoOther();
        buyerAfterUndo();
        goodAfterUndoAndJoin();
        moneyOfOneBuyer();
        valueOfOneBuyerForOneGood();
        joinOfEachTwoGoods();
        joinOfNoTwoGoods();
        joinUpToNine();
        joinInProportion();
        joinOutOfProportion();
        joinWithoutBuyers();
        joinDownToOne();
        undoOfEightAtMost();
        undoOfWhatFellOut();
        undoOfNone();
        countOfEach();
        toldOfMoneyByNone();
        readyWithoutBuyersOrGoods();
        readyByTheFirstBuyer();
        readyByTheFirstGood();
        Check.end();
    }

    /** Promise 1: "No buyers, no goods, .. nothing to undo." */
    private static void newObjectIsEmpty() {
        MarketDesk x = new MarketDesk();
        Check.due("buyers of a new object", 0, () -> x.count(false));
        Check.due("goods of a new object", 0, () -> x.count(true));
        Check.due("ready of a new object", 1, () -> x.ready());
        Refused.state("undo of a new object", MarketDesk::new, desk -> desk.undo());
        Refused.state("price of a new object", MarketDesk::new, desk -> desk.price(0, true));
    }

    /** Promise 1: "all tried prices 1". */
    private static void newObjectTriesOnes() {
        MarketDesk x = Desks.ready(new int[] {1}, new int[][] {{9}});
        Check.due("price 1 of the first good", 0, () -> x.test());
        x.good();
        x.value(0, 1, 9);
        x.money(0, 2);
        Check.due("price 1 of the second good", 0, () -> x.test());
        x.good();
        x.value(0, 2, 9);
        Check.due("not the money", -1, () -> x.test());
        x.money(0, 3);
        Check.due("price 1 of the third good", 0, () -> x.test());
        x.money(0, 4);
        Check.due("not the money", -1, () -> x.test());
    }

    /** Promise 1: a new object has nothing of one that was used. */
    private static void newObjectIsNoOther() {
        String due = Picture.whole(new MarketDesk());
        MarketDesk before = new MarketDesk();
        MarketDesk used = Desks.full();
        used.tryPrice(0, 7, 2);
        Check.same("made before", due, Picture.whole(before));
        Check.same("made after", due, Picture.whole(new MarketDesk()));
        MarketDesk x = Desks.ready(new int[] {1}, new int[][] {{1}});
        Check.due("tried prices of another object", 0, () -> x.test());
    }

    /** Promise 2: "A new buyer: the number", also for one that was undone, and where there were three. */
    private static void buyerAfterUndo() {
        MarketDesk x = Desks.bare(3, 0);
        Check.due("undo of the third", 2, () -> x.undo());
        Check.due("a third once more", 2, () -> x.buyer(20));
        Check.due("its money", 20, () -> x.told(2, -1));
        Check.thrown("a fourth", UnsupportedOperationException.class, () -> x.buyer(1));
        x.undo();
        x.undo();
        x.undo();
        Check.due("a first once more", 0, () -> x.buyer(1));
    }

    /** Promise 3: "A new good: its number", also for one that was undone, and where there were three before a join. */
    private static void goodAfterUndoAndJoin() {
        MarketDesk x = Desks.bare(0, 3);
        Check.due("undo of the third", 2, () -> x.undo());
        Check.due("a third once more", 2, () -> x.good());
        Check.thrown("a fourth", UnsupportedOperationException.class, () -> x.good());
        x.join(0, 1);
        Check.due("a third behind a join", 2, () -> x.good());
        Check.thrown("a fourth behind a join", UnsupportedOperationException.class, () -> x.good());
        x.undo();
        x.undo();
        Check.due("goods before the join", 3, () -> x.count(true));
        Check.thrown("a fourth before the join", UnsupportedOperationException.class, () -> x.good());
    }

    /** Promise 4: "A buyer's money", and no other's. */
    private static void moneyOfOneBuyer() {
        for (int b = 0; b < 3; b++) {
            MarketDesk x = Desks.bare(3, 1);
            x.money(b, 20);
            for (int other = 0; other < 3; other++) {
                int buyer = other;
                Check.due("money of " + other, other == b ? 20 : other + 1, () -> x.told(buyer, -1));
                Check.due("value of " + other, 0, () -> x.told(buyer, 0));
            }
        }
    }

    /** Promise 5: "A buyer's value for a good", and no other; a value is no money. */
    private static void valueOfOneBuyerForOneGood() {
        for (int i = 0; i < 9; i++) {
            MarketDesk x = Desks.bare(3, 3);
            x.value(i / 3, i % 3, 9);
            for (int j = 0; j < 9; j++) {
                int cell = j;
                Check.due("value " + j + " of all", i == j ? 9 : 0, () -> x.told(cell / 3, cell % 3));
            }
            Check.due("money of the last", 3, () -> x.told(2, -1));
        }
    }

    /** Solved; each two goods can be joined, the last buyer's goods 0 and 1, or 1 and 2, up to 9. */
    private static MarketDesk alike() {
        return Desks.solved(new int[] {4, 5, 6}, new int[][] {{1, 2, 1}, {2, 4, 2}, {3, 6, 3}});
    }

    private static String values(MarketDesk x) {
        StringBuilder text = new StringBuilder();
        for (int i = 0; i < x.count(false) * x.count(true); i++) {
            text.append(x.told(i / x.count(true), i % x.count(true)));
        }
        return text.toString();
    }

    /** Promise 6: "in the place of a, .. goods behind b are one less each": the first, last and outer two. */
    private static void joinOfEachTwoGoods() {
        int[][] pairs = {{0, 1}, {0, 2}, {1, 2}};
        String[] due = {"316293", "224466", "132639"};
        for (int i = 0; i < 3; i++) {
            int a = pairs[i][0];
            int b = pairs[i][1];
            MarketDesk x = alike();
            Check.done("join", () -> x.join(a, b));
            Check.due("goods", 2, () -> x.count(true));
            Check.due("values after join of " + a + " and " + b, due[i], () -> values(x));
            Check.thrown("good 2 after join", IndexOutOfBoundsException.class, () -> x.told(0, 2));
            Check.due("undo", 7, () -> x.undo());
            MarketDesk same = alike();
            same.undo();
            x.undo();
            Check.same("before the join", Picture.now(same), Picture.now(x));
        }
    }

    /** Promise 6: "IndexOutOfBoundsException also when a is not less than b". */
    private static void joinOfNoTwoGoods() {
        for (int goods = 0; goods <= 3; goods++) {
            int count = goods;
            int[] numbers = {Integer.MIN_VALUE, -1, 0, 1, 2, 3, Integer.MAX_VALUE};
            for (int a : numbers) {
                for (int b : numbers) {
                    if (!(0 <= a && a < b && b < count)) {
                        Refused.index("join " + a + " and " + b + " of " + count, () -> Desks.bare(2, count),
                            x -> x.join(a, b));
                    }
                }
            }
        }
        Refused.index("join backwards what could be joined", MarketEdgeTest::alike, x -> x.join(2, 1));
        Refused.index("join a good with itself", MarketEdgeTest::alike, x -> x.join(2, 2));
    }

    /** Two goods and three buyers, of whom one has these values, and the others none. */
    private static MarketDesk oneRow(int buyer, int a, int b) {
        MarketDesk x = Desks.bare(3, 2);
        x.value(buyer, 0, a);
        x.value(buyer, 1, b);
        return x;
    }

    /** Promise 6: "when some sum is above 9", of the first, the next or the last buyer. */
    private static void joinUpToNine() {
        for (int b = 0; b < 3; b++) {
            int buyer = b;
            for (int[] row : new int[][] {{4, 5}, {9, 0}, {0, 9}, {8, 1}}) {
                MarketDesk x = oneRow(buyer, row[0], row[1]);
                Check.done("join with sum 9", () -> x.join(0, 1));
                Check.due("the sum", 9, () -> x.told(buyer, 0));
            }
            for (int[] row : new int[][] {{5, 5}, {9, 1}, {1, 9}, {4, 6}, {9, 9}}) {
                Refused.argument("join of " + row[0] + " and " + row[1], () -> oneRow(buyer, row[0], row[1]),
                    x -> x.join(0, 1));
            }
        }
        MarketDesk gone = Desks.ready(new int[] {1}, new int[][] {{4, 5}});
        gone.buyer(1);
        gone.value(1, 0, 9);
        gone.value(1, 1, 9);
        gone.undo();
        gone.undo();
        gone.undo();
        Check.done("join with sum 18 of a buyer that was undone", () -> gone.join(0, 1));
    }

    private static MarketDesk twoGoods(int[][] values) {
        return Desks.ready(new int[] {3, 2, 1}, values);
    }

    /** Promise 6: values in proportion, among them rows of 0, which are in proportion to all. */
    private static void joinInProportion() {
        int[][][] allowed = {
            {{1, 2}, {2, 4}, {3, 6}}, {{0, 3}, {0, 1}, {0, 9}}, {{3, 0}, {1, 0}, {9, 0}}, {{1, 2}, {0, 0}, {2, 4}},
            {{0, 0}, {4, 5}, {0, 0}}, {{0, 0}, {0, 0}, {0, 0}}, {{2, 2}, {3, 3}, {4, 4}}, {{4, 2}, {6, 3}, {2, 1}},
        };
        for (int[][] values : allowed) {
            MarketDesk x = twoGoods(values);
            Check.done("join of " + values(x), () -> x.join(0, 1));
            StringBuilder due = new StringBuilder();
            for (int[] row : values) {
                due.append(row[0] + row[1]);
            }
            Check.due("values after join", due, () -> values(x));
        }
        MarketDesk alone = Desks.ready(new int[] {3}, new int[][] {{7, 2}});
        Check.done("join with one buyer", () -> alone.join(0, 1));
    }

    /** Promise 6: "for two buyers .. is not ..": the first two, the last two, the outer two alone. */
    private static void joinOutOfProportion() {
        int[][][] pairs = {
            {{1, 2}, {2, 1}}, {{1, 1}, {1, 2}}, {{1, 0}, {0, 1}}, {{1, 0}, {1, 1}}, {{0, 9}, {1, 8}}, {{3, 4}, {4, 5}},
            {{4, 5}, {4, 4}}, {{2, 3}, {3, 5}},
        };
        for (int[][] pair : pairs) {
            for (int none = 0; none < 3; none++) {
                int[][] values = new int[3][2];
                values[none == 0 ? 1 : 0] = pair[0];
                values[none == 2 ? 1 : 2] = pair[1];
                Refused.argument("join out of proportion, 0 for " + none, () -> twoGoods(values), x -> x.join(0, 1));
            }
            Refused.argument("join out of proportion by the last", () -> twoGoods(new int[][] {pair[0], pair[0],
                pair[1]}), x -> x.join(0, 1));
            Refused.argument("join out of proportion by the first", () -> twoGoods(new int[][] {pair[1], pair[0],
                pair[0]}), x -> x.join(0, 1));
            Refused.argument("join out of proportion with two buyers", () -> Desks.ready(new int[] {1, 2}, pair),
                x -> x.join(0, 1));
        }
        Refused.argument("join out of proportion when solved", () -> Desks.solved(new int[] {1, 2}, pairs[0]),
            x -> x.join(0, 1));
    }

    /** Promise 6: no buyer, no value: two goods become one. */
    private static void joinWithoutBuyers() {
        MarketDesk x = Desks.bare(0, 2);
        Check.done("join without buyers", () -> x.join(0, 1));
        Check.due("goods after it", 1, () -> x.count(true));
        x.buyer(1);
        Check.due("value after it", 0, () -> x.told(0, 0));
        Check.thrown("the other good", IndexOutOfBoundsException.class, () -> x.told(0, 1));
    }

    /** Promise 6: three become two, two one, and one can't be joined. */
    private static void joinDownToOne() {
        MarketDesk x = Desks.ready(new int[] {20}, new int[][] {{2, 3, 4}});
        x.join(1, 2);
        x.join(0, 1);
        Check.due("goods", 1, () -> x.count(true));
        Check.due("value", 9, () -> x.told(0, 0));
        Check.thrown("join of the last", IndexOutOfBoundsException.class, () -> x.join(0, 1));
        x.solve();
        Check.due("price of all", "20/1", () -> Answers.price(x, 0));
        Check.due("undo of the second join", 7, () -> x.undo());
        Check.due("undo of the first join", 6, () -> x.undo());
        Check.due("values", "234", () -> values(x));
    }

    /** Promise 7: "how many are left that can be (the latest 8 can)", after so many changes. */
    private static void undoOfEightAtMost() {
        for (int changes = 0; changes <= 20; changes++) {
            MarketDesk x = new MarketDesk();
            for (int i = 0; i < changes; i++) {
                if (i == 0) {
                    x.buyer(20);
                } else {
                    x.money(0, i);
                }
            }
            int most = Math.min(changes, 8);
            for (int undone = 1; undone <= most; undone++) {
                int left = most - undone;
                Check.due("undo after " + changes + " changes", left, () -> x.undo());
            }
            Check.thrown("one more after " + changes, IllegalStateException.class, () -> x.undo());
            Check.due("buyers after " + changes, changes > 8 ? 1 : 0, () -> x.count(false));
            if (changes > 8) {
                Check.due("money after " + changes, changes == 9 ? 20 : changes - 9, () -> x.told(0, -1));
            }
        }
    }

    /** Promise 7: what fell out of the latest 8 does not come back; changes after undo count anew. */
    private static void undoOfWhatFellOut() {
        MarketDesk x = Desks.bare(1, 0);
        for (int money = 2; money <= 12; money++) {
            x.money(0, money);
        }
        Check.due("undo", 7, () -> x.undo());
        Check.due("undo", 6, () -> x.undo());
        x.money(0, 20);
        Check.due("undo of one after two undone", 6, () -> x.undo());
        x.money(0, 20);
        x.money(0, 19);
        x.money(0, 18);
        Check.due("undo of the third after", 7, () -> x.undo());
        Check.due("money", 19, () -> x.told(0, -1));
        for (int undone = 0; undone < 7; undone++) {
            x.undo();
        }
        Check.due("the oldest money that is left", 5, () -> x.told(0, -1));
        Check.thrown("undo of what fell out", IllegalStateException.class, () -> x.undo());
        x.money(0, 1);
        Check.due("undo of a change after that", 0, () -> x.undo());
        Check.due("the oldest money that is left", 5, () -> x.told(0, -1));
    }

    private static MarketDesk fullUndone() {
        MarketDesk x = Desks.full();
        for (int i = 0; i < 8; i++) {
            x.undo();
        }
        return x;
    }

    private static MarketDesk smallSolvedUndone() {
        MarketDesk x = Desks.ready(new int[] {6}, new int[][] {{3}});
        x.money(0, 1);
        for (int i = 0; i < 8; i++) {
            x.value(0, 0, 9);
        }
        x.solve();
        for (int i = 0; i < 8; i++) {
            x.undo();
        }
        x.solve();
        return x;
    }

    /** Promise 7: "IllegalStateException when there is none": nothing yet, and nothing any more. */
    private static void undoOfNone() {
        Refused.state("undo of nothing yet", MarketDesk::new, x -> x.undo());
        Refused.state("undo of a ninth", MarketEdgeTest::fullUndone, x -> x.undo());
        Refused.state("undo of a ninth when solved", MarketEdgeTest::smallSolvedUndone, x -> x.undo());
        MarketDesk x = smallSolvedUndone();
        Check.thrown("undo", IllegalStateException.class, () -> x.undo());
        Check.due("price after a refused undo", 1, () -> x.price(0, false));
    }

    /** Promise 8: from none to three. */
    private static void countOfEach() {
        for (int buyers = 0; buyers <= 3; buyers++) {
            for (int goods = 0; goods <= 3; goods++) {
                MarketDesk x = Desks.bare(buyers, goods);
                Check.due("buyers beside goods", buyers, () -> x.count(false));
                Check.due("goods beside buyers", goods, () -> x.count(true));
            }
        }
    }

    /** Promise 9: "A buyer's money (good NONE, -1)", whether there are goods or not; -2 is none. */
    private static void toldOfMoneyByNone() {
        for (int goods = 0; goods <= 3; goods++) {
            int count = goods;
            MarketDesk x = Desks.bare(3, count);
            for (int b = 0; b < 3; b++) {
                int buyer = b;
                Check.due("money beside " + count + " goods", buyer + 1, () -> x.told(buyer, -1));
            }
            Refused.index("told of good -2", () -> Desks.bare(3, count), desk -> desk.told(0, -2));
            Refused.index("told of good " + count, () -> Desks.bare(3, count), desk -> desk.told(0, count));
        }
        Refused.index("money of nobody", () -> Desks.bare(0, 3), x -> x.told(0, -1));
    }

    /** Promise 10: "1 when there is no buyer or no good". */
    private static void readyWithoutBuyersOrGoods() {
        for (int count = 0; count <= 3; count++) {
            MarketDesk noBuyer = Desks.bare(0, count);
            MarketDesk noGood = Desks.bare(count, 0);
            Check.due("ready without buyers", 1, () -> noBuyer.ready());
            Check.due("ready without goods", 1, () -> noGood.ready());
        }
    }

    /** The market where the bits of a set, three for each buyer, say which values are 1. */
    private static MarketDesk wanted(int buyers, int goods, int set) {
        MarketDesk x = Desks.bare(buyers, goods);
        for (int i = 0; i < 9; i++) {
            if (i / 3 < buyers && i % 3 < goods && (set >> i & 1) != 0) {
                x.value(i / 3, i % 3, 1);
            }
        }
        return x;
    }

    /** Promise 10: "else 10 and the first buyer without a value above 0", whatever is of the goods. */
    private static void readyByTheFirstBuyer() {
        for (int set = 0; set < 512; set++) {
            int due = (set & 7) == 0 ? 10 : (set & 56) == 0 ? 11 : (set & 448) == 0 ? 12 : 0;
            if (due != 0) {
                MarketDesk x = wanted(3, 3, set);
                Check.due("ready with " + set, due, () -> x.ready());
                Check.thrown("solve with " + set, IllegalStateException.class, () -> x.solve());
            }
        }
        Check.due("one buyer, three goods", 10, () -> wanted(1, 3, 0).ready());
        Check.due("two buyers, one good", 11, () -> wanted(2, 1, 1).ready());
        Check.due("three buyers, one good", 12, () -> wanted(3, 1, 9).ready());
    }

    /** Promise 10: "if each has one, 20 and the first good for which nobody has one", and "0 when it is READY". */
    private static void readyByTheFirstGood() {
        for (int set = 0; set < 512; set++) {
            if ((set & 7) != 0 && (set & 56) != 0 && (set & 448) != 0) {
                int due = (set & 73) == 0 ? 20 : (set & 146) == 0 ? 21 : (set & 292) == 0 ? 22 : 0;
                MarketDesk x = wanted(3, 3, set);
                Check.due("ready with " + set, due, () -> x.ready());
                Check.due("solve with " + set, due == 0 ? "done" : "throws.IllegalStateException",
                    () -> Check.outcomeOf(() -> x.solve()));
            }
        }
        Check.due("one buyer, two goods", 21, () -> wanted(1, 2, 1).ready());
        Check.due("one buyer, two goods", 20, () -> wanted(1, 2, 2).ready());
        Check.due("one buyer, three goods", 22, () -> wanted(1, 3, 3).ready());
        Check.due("one buyer, three goods", 0, () -> wanted(1, 3, 7).ready());
        Check.due("two buyers, three goods", 0, () -> wanted(2, 3, 42).ready());
    }
}
