import java.util.function.Consumer;

/** The boundary cases of what "Terms" says of changes and of undo, each method for the sentence that it quotes. */
public final class ChangesEdgeTest {
    public static void main(String[] args) {
        changeAlsoIfItSaysWhatThereIs();
        questionsAreNoChange();
        undoTakesTheLatestNotUndone();
        undoBringsBackWhatWasSolved();
        undoBringsBackAllEightSolved();
        Check.end();
    }

    /** A change ends what was solved, can be undone, and undone brings back all that was before. */
    private static void change(String what, Consumer<MarketDesk> call) {
        MarketDesk x = Desks.small();
        call.accept(x);
        Check.thrown(what + " ends what was solved", IllegalStateException.class, () -> x.price(0, false));
        Check.due(what + " can be undone", 5, () -> x.undo());
        Check.same(what + " undone", Picture.whole(Desks.small()), Picture.whole(x));
    }

    /** "A CHANGE .. is a call of buyer, good, money, value or join .. (also if it says what there is)." */
    private static void changeAlsoIfItSaysWhatThereIs() {
        change("buyer", x -> x.buyer(1));
        change("good", x -> x.good());
        change("money", x -> x.money(0, 7));
        change("the same money", x -> x.money(0, 6));
        change("value", x -> x.value(0, 1, 3));
        change("the same value", x -> x.value(0, 1, 2));
        change("join", x -> x.join(0, 1));
    }

    private static void noChange(String what, Consumer<MarketDesk> call) {
        MarketDesk x = Desks.small();
        call.accept(x);
        Check.same(what + " is no change", Picture.whole(Desks.small()), Picture.whole(x));
    }

    private static void questionsAreNoChange() {
        noChange("count", x -> x.count(true));
        noChange("count", x -> x.count(false));
        noChange("told", x -> x.told(0, 1));
        noChange("told", x -> x.told(0, -1));
        noChange("ready", x -> x.ready());
        noChange("solve", x -> x.solve());
        noChange("price", x -> x.price(1, true));
        noChange("best", x -> x.best(0, 1, true));
        noChange("likes", x -> x.likes(0, 1));
        noChange("spent", x -> x.spent(0, 1, 1, true));
        noChange("test", x -> x.test());
        noChange("tryPrice", x -> x.tryPrice(1, 4, 1));
    }

    /** "the latest change that was not undone". */
    private static void undoTakesTheLatestNotUndone() {
        MarketDesk x = Desks.bare(1, 0);
        x.money(0, 11);
        x.money(0, 12);
        x.money(0, 13);
        Check.due("undo", 3, () -> x.undo());
        Check.due("undo", 2, () -> x.undo());
        Check.due("money after two undone", 11, () -> x.told(0, -1));
        x.money(0, 14);
        Check.due("undo of the change after undo", 2, () -> x.undo());
        Check.due("money before it", 11, () -> x.told(0, -1));
        Check.due("undo", 1, () -> x.undo());
        Check.due("money before the first", 1, () -> x.told(0, -1));
        Check.due("undo of the buyer", 0, () -> x.undo());
        Check.thrown("told of the buyer", IndexOutOfBoundsException.class, () -> x.told(0, -1));
    }

    /** "with what was solved then, if it was". */
    private static void undoBringsBackWhatWasSolved() {
        MarketDesk x = Desks.ready(new int[] {6}, new int[][] {{3}});
        x.money(0, 5);
        x.solve();
        x.undo();
        Check.thrown("solved after the change alone", IllegalStateException.class, () -> x.price(0, false));
        x.solve();
        x.money(0, 4);
        x.undo();
        Check.due("solved after undo, before the change alone", 6, () -> x.price(0, false));
        x.money(0, 4);
        x.solve();
        x.money(0, 3);
        x.undo();
        Check.due("solved before and after", 4, () -> x.price(0, false));
        x.undo();
        Check.due("solved before and after", 6, () -> x.price(0, false));
        // Not ready, and so not solved, between: the old prices are not those of the market between.
        x.value(0, 0, 0);
        x.good();
        Check.thrown("solve between", IllegalStateException.class, () -> x.solve());
        x.undo();
        Check.thrown("not solved between", IllegalStateException.class, () -> x.price(0, false));
        x.undo();
        Check.due("solved before", 6, () -> x.price(0, false));
    }

    /** Nine markets, each solved, with other prices and another division each. */
    private static void undoBringsBackAllEightSolved() {
        MarketDesk x = Desks.ready(new int[] {10, 2}, new int[][] {{2, 2}, {0, 5}});
        for (int money = 3; money <= 13; money++) {
            x.money(1, money);
            x.solve();
        }
        for (int money = 13; money >= 5; money--) {
            MarketDesk alone = Desks.solved(new int[] {10, money}, new int[][] {{2, 2}, {0, 5}});
            Check.due("price with money " + money, Answers.price(alone, 1), () -> Answers.price(x, 1));
            Check.due("spent with money " + money, Answers.spent(alone, 0, 1, 0), () -> Answers.spent(x, 0, 1, 0));
            int left = money - 6;
            if (left >= 0) {
                Check.due("undo", left, () -> x.undo());
            }
        }
        Check.thrown("undo of a ninth", IllegalStateException.class, () -> x.undo());
    }
}
