/**
 * "An object is used for at most 512 calls after it has been made": the 512th call of an object is as good as the
 * first, whatever the 511 before it were.
 */
public final class CallsEdgeTest {
    private static final int CALLS = 512;

    public static void main(String[] args) {
        changesAlone();
        changesAndUndoes();
        solvesAlone();
        solvedAnew();
        questionsAlone();
        triesAlone();
        refusedAlone();
        refusedUndoesAlone();
        Check.end();
    }

    /** 502 changes, told, eight undone, and a ninth. */
    private static void changesAlone() {
        MarketDesk x = new MarketDesk();
        x.buyer(20);
        for (int change = 1; change < 502; change++) {
            x.money(0, 1 + change % 20);
        }
        Check.due("money after 502 changes", 2, () -> x.told(0, -1));
        for (int undone = 1; undone <= 8; undone++) {
            int left = 8 - undone;
            Check.due("undo after 502 changes", left, () -> x.undo());
        }
        Check.thrown("undo as call 512", IllegalStateException.class, () -> x.undo());
    }

    private static void changesAndUndoes() {
        MarketDesk x = new MarketDesk();
        x.buyer(20);
        for (int calls = 1; calls < CALLS - 1; calls += 2) {
            int money = 1 + calls % 19;
            x.money(0, money);
            Check.due("undo as call " + (calls + 2), 1, () -> x.undo());
        }
        Check.due("money as call 512", 20, () -> x.told(0, -1));
    }

    private static void solvesAlone() {
        MarketDesk x = Desks.ready(new int[] {20, 20, 20}, new int[][] {{8, 9, 7}, {0, 8, 9}, {0, 6, 7}});
        for (int calls = 15; calls < CALLS - 1; calls++) {
            x.solve();
        }
        Check.due("price as call 512", 3840, () -> x.price(0, false));
    }

    /** Three calls to make it ready, 169 times three, one undone, and a price. */
    private static void solvedAnew() {
        MarketDesk x = Desks.ready(new int[] {1}, new int[][] {{1}});
        for (int round = 0; round < 169; round++) {
            int money = 1 + round % 20;
            x.money(0, money);
            x.solve();
            Check.due("price of round " + round, money, () -> x.price(0, false));
        }
        x.undo();
        Check.due("price as call 512", 8, () -> x.price(0, false));
    }

    private static void questionsAlone() {
        MarketDesk x = Desks.full();
        String first = Picture.now(x);
        for (int i = 0; i < 3; i++) {
            Check.same("all answers once more", first, Picture.now(x));
        }
    }

    private static void triesAlone() {
        MarketDesk x = Desks.ready(new int[] {20}, new int[][] {{3}});
        for (int calls = 3; calls < CALLS - 2; calls++) {
            x.tryPrice(0, calls, CALLS);
        }
        x.tryPrice(0, 100, 5);
        Check.due("test as call 512", 0, () -> x.test());
    }

    private static void refusedAlone() {
        MarketDesk x = new MarketDesk();
        for (int calls = 0; calls < CALLS - 1; calls++) {
            Check.thrown("buyer as call " + (calls + 1), IllegalArgumentException.class, () -> x.buyer(21));
        }
        Check.due("buyer as call 512", 0, () -> x.buyer(20));
    }

    private static void refusedUndoesAlone() {
        MarketDesk x = new MarketDesk();
        for (int calls = 0; calls < CALLS - 2; calls++) {
            Check.thrown("undo as call " + (calls + 1), IllegalStateException.class, () -> x.undo());
        }
        x.good();
        Check.due("undo as call 512", 0, () -> x.undo());
    }
}
