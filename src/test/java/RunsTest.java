import java.util.ArrayList;
import java.util.List;

/** Long runs of calls, right and wrong ones, whose answers are compared with those of Reference. */
public final class RunsTest {
    private static final int CALLS = 512;
    private final MarketDesk desk = new MarketDesk();
    private final Reference reference = new Reference();
    private final List<String> made = new ArrayList<>();
    private long seed;
    private int calls = 0;

    private RunsTest(long seed) {
        this.seed = seed * 7919 + 17;
    }

    public static void main(String[] args) {
        for (int run = 0; run < 300; run++) {
            new RunsTest(run).mixedRun();
        }
        for (int run = 0; run < 3000; run++) {
            new RunsTest(1000000L + run).marketRun(1 + run % 3, 1 + run / 3 % 3, run % 4);
        }
        Check.end();
    }

    private int upTo(int bound) {
        seed = seed * 6364136223846793005L + 1442695040888963407L;
        return (int) ((seed >>> 33) % bound);
    }

    /** A number from least to most, seldom one beside. */
    private int about(int least, int most) {
        return upTo(12) == 0 ? (upTo(2) == 0 ? least - 1 : most + 1) : least + upTo(most - least + 1);
    }

    private void same(String call, Check.Call due, Check.Call got) {
        calls++;
        String want = Check.outcome(due);
        String answer = Check.outcome(got);
        made.add(call);
        Check.same(want.equals(answer) ? call : made.toString(), want, answer);
    }

    private void sameOrder(String call, Check.Order due, Check.Order got) {
        same(call, () -> Check.outcomeOf(due), () -> Check.outcomeOf(got));
    }

    private void buyer(int money) {
        same("buyer(" + money + ")", () -> reference.buyer(money), () -> desk.buyer(money));
    }

    private void good() {
        same("good()", () -> reference.good(), () -> desk.good());
    }

    private void money(int b, int money) {
        sameOrder("money(" + b + ", " + money + ")", () -> reference.money(b, money), () -> desk.money(b, money));
    }

    private void value(int b, int g, int value) {
        sameOrder("value(" + b + ", " + g + ", " + value + ")",
            () -> reference.value(b, g, value), () -> desk.value(b, g, value));
    }

    private void join(int a, int b) {
        sameOrder("join(" + a + ", " + b + ")", () -> reference.join(a, b), () -> desk.join(a, b));
    }

    private void undo() {
        same("undo()", () -> reference.undo(), () -> desk.undo());
    }

    private void told(int b, int g) {
        same("told(" + b + ", " + g + ")", () -> reference.told(b, g), () -> desk.told(b, g));
    }

    private void ready() {
        same("ready()", () -> reference.ready(), () -> desk.ready());
    }

    private void solve() {
        if (reference.ready() == 0) {
            calls += 2 * reference.count(true);
            same("solve() fair", () -> true, () -> reference.solve(desk));
        } else {
            sameOrder("solve()", () -> reference.solve(desk), () -> desk.solve());
        }
    }

    private void price(int g, boolean below) {
        same("price(" + g + ", " + below + ")", () -> reference.price(g, below), () -> desk.price(g, below));
    }

    private void best(int b, int what, boolean below) {
        same("best(" + b + ", " + what + ", " + below + ")",
            () -> reference.best(b, what, below), () -> desk.best(b, what, below));
    }

    private void likes(int b, int g) {
        same("likes(" + b + ", " + g + ")", () -> reference.likes(b, g), () -> desk.likes(b, g));
    }

    private void spent(int b, int g, int what, boolean below) {
        same("spent(" + b + ", " + g + ", " + what + ", " + below + ")",
            () -> reference.spent(b, g, what, below), () -> desk.spent(b, g, what, below));
    }

    private void tryPrice(int g, int above, int below) {
        sameOrder("tryPrice(" + g + ", " + above + ", " + below + ")",
            () -> reference.tryPrice(g, above, below), () -> desk.tryPrice(g, above, below));
    }

    private void test() {
        same("test()", () -> reference.test(), () -> desk.test());
    }

    private void mixedRun() {
        int greatest = 1 + upTo(9);
        while (calls < CALLS - 8) {
            switch (upTo(20)) {
                case 0 -> buyer(about(1, 20));
                case 1, 2 -> good();
                case 3 -> money(about(0, 2), about(1, 20));
                case 4, 5, 6, 7 -> value(about(0, 2), about(0, 2), upTo(20) == 0 ? about(0, 9) : upTo(greatest + 1));
                case 8 -> join(about(0, 1), about(1, 2));
                case 9, 10 -> undo();
                case 11 -> told(about(0, 2), about(-1, 2));
                case 12 -> ready();
                case 13, 14 -> solve();
                case 15 -> price(about(0, 2), upTo(2) == 0);
                case 16 -> best(about(0, 2), about(0, 1), upTo(2) == 0);
                case 17 -> likes(about(0, 2), about(0, 2));
                case 18 -> spent(about(0, 2), about(0, 2), about(0, 1), upTo(2) == 0);
                default -> tryAndTest();
            }
            same("count", () -> reference.count(calls % 2 == 0), () -> desk.count(calls % 2 == 0));
        }
    }

    private void tryAndTest() {
        tryPrice(about(0, 2), upTo(5) == 0 ? about(1, 100000) : about(1, 20), upTo(5) == 0 ? about(1, 100000) : 1);
        test();
    }

    /** A ready market of one size: all answers on it, then tests of prices that sum up. */
    private void marketRun(int buyers, int goods, int kind) {
        for (int b = 0; b < buyers; b++) {
            buyer(1 + upTo(kind == 0 ? 3 : 20));
        }
        for (int g = 0; g < goods; g++) {
            good();
        }
        int greatest = new int[] {1, 2, 4, 9}[kind];
        for (int tries = 0; tries < 3; tries++) {
            for (int i = 0; i < buyers * goods; i++) {
                value(i / goods, i % goods, upTo(greatest + 1));
            }
        }
        for (int i = 0; i < buyers * goods && reference.ready() != 0; i++) {
            value(i / goods, i % goods, 1 + upTo(greatest));
        }
        ready();
        solve();
        askAll(buyers, goods);
        for (int i = 0; i < 6; i++) {
            testPricesThatSumUp(goods);
        }
    }

    private void askAll(int buyers, int goods) {
        for (int i = 0; i < 2; i++) {
            boolean below = i == 0;
            for (int b = 0; b < buyers; b++) {
                best(b, 0, below);
                best(b, 1, below);
                for (int g = 0; g < goods; g++) {
                    likes(b, g);
                    spent(b, g, 0, below);
                    spent(b, g, 1, below);
                }
            }
            for (int g = 0; g < goods; g++) {
                price(g, below);
            }
        }
    }

    private void testPricesThatSumUp(int goods) {
        for (int g = 0; g < goods; g++) {
            tryPrice(g, (int) desk.price(g, false), (int) desk.price(g, true));
        }
        test();
        if (goods < 2) {
            return;
        }
        int from = upTo(goods);
        int to = (from + 1 + upTo(goods - 1)) % goods;
        int below = upTo(2) == 0 ? 1 + upTo(3) : 1 + upTo(50);
        Ratio moved = Ratio.of(1, below);
        Ratio less = Ratio.of(desk.price(from, false), desk.price(from, true)).minus(moved);
        Ratio more = Ratio.of(desk.price(to, false), desk.price(to, true)).plus(moved);
        if (less.isPositive()) {
            tryPrice(from, (int) less.part(false), (int) less.part(true));
            tryPrice(to, (int) more.part(false), (int) more.part(true));
            test();
        }
    }
}
