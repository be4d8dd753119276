import java.util.ArrayDeque;
import java.util.Arrays;

/**
 * The document's class once more, in another way: whole copies for undo, exact fractions, flows found by paths in
 * place of sets of goods. It does not find prices: it takes those of the desk, and says whether they are fair.
 */
final class Reference {
    private static final class State {
        int[] money = {};
        int[][] values = {};
        int goods = 0;
        Ratio[] prices = null;
        Ratio[][] division = null;

        State copy() {
            State copy = new State();
            copy.money = money.clone();
            copy.values = new int[values.length][];
            for (int b = 0; b < values.length; b++) {
                copy.values[b] = values[b].clone();
            }
            copy.goods = goods;
            copy.prices = prices;
            copy.division = division;
            return copy;
        }
    }

    private State state = new State();
    private final ArrayDeque<State> past = new ArrayDeque<>();
    private final Ratio[] tried = {Ratio.of(1, 1), Ratio.of(1, 1), Ratio.of(1, 1)};

    private void change() {
        past.addLast(state.copy());
        if (past.size() > 8) {
            past.removeFirst();
        }
        state.prices = null;
        state.division = null;
    }

    private void index(boolean fits) {
        if (!fits) {
            throw new IndexOutOfBoundsException();
        }
    }

    private void argument(boolean fits) {
        if (!fits) {
            throw new IllegalArgumentException();
        }
    }

    private void state(boolean fits) {
        if (!fits) {
            throw new IllegalStateException();
        }
    }

    private boolean isBuyer(int buyer) {
        return 0 <= buyer && buyer < state.money.length;
    }

    private boolean isGood(int good) {
        return 0 <= good && good < state.goods;
    }

    int buyer(int money) {
        argument(1 <= money && money <= 20);
        int number = state.money.length;
        if (number == 3) {
            throw new UnsupportedOperationException();
        }
        change();
        state.money = Arrays.copyOf(state.money, number + 1);
        state.money[number] = money;
        state.values = Arrays.copyOf(state.values, number + 1);
        state.values[number] = new int[state.goods];
        return number;
    }

    int good() {
        if (state.goods == 3) {
            throw new UnsupportedOperationException();
        }
        change();
        state.goods++;
        for (int b = 0; b < state.values.length; b++) {
            state.values[b] = Arrays.copyOf(state.values[b], state.goods);
        }
        return state.goods - 1;
    }

    void money(int buyer, int money) {
        index(isBuyer(buyer));
        argument(1 <= money && money <= 20);
        change();
        state.money[buyer] = money;
    }

    void value(int buyer, int good, int value) {
        index(isBuyer(buyer) && isGood(good));
        argument(0 <= value && value <= 9);
        change();
        state.values[buyer][good] = value;
    }

    void join(int a, int b) {
        index(isGood(a) && isGood(b) && a < b);
        for (int[] one : state.values) {
            argument(one[a] + one[b] <= 9);
            for (int[] other : state.values) {
                argument(one[a] * other[b] == one[b] * other[a]);
            }
        }
        change();
        state.goods--;
        for (int i = 0; i < state.values.length; i++) {
            int[] joined = new int[state.goods];
            for (int g = 0; g <= state.goods; g++) {
                joined[g == b ? a : g > b ? g - 1 : g] += state.values[i][g];
            }
            state.values[i] = joined;
        }
    }

    int undo() {
        state(!past.isEmpty());
        state = past.removeLast();
        return past.size();
    }

    int count(boolean goods) {
        return goods ? state.goods : state.money.length;
    }

    int told(int buyer, int good) {
        index(isBuyer(buyer) && (good == -1 || isGood(good)));
        return good == -1 ? state.money[buyer] : state.values[buyer][good];
    }

    int ready() {
        if (state.money.length == 0 || state.goods == 0) {
            return 1;
        }
        for (int b = 0; b < state.money.length; b++) {
            if (Arrays.stream(state.values[b]).sum() == 0) {
                return 10 + b;
            }
        }
        for (int g = 0; g < state.goods; g++) {
            int good = g;
            if (Arrays.stream(state.values).mapToInt(row -> row[good]).sum() == 0) {
                return 20 + g;
            }
        }
        return 0;
    }

    /** Takes over the prices of a desk that was just solved; false when they are not fair. */
    boolean solve(MarketDesk desk) {
        state(ready() == 0);
        desk.solve();
        Ratio[] prices = new Ratio[state.goods];
        for (int g = 0; g < state.goods; g++) {
            prices[g] = Ratio.of(desk.price(g, false), desk.price(g, true));
            if (!prices[g].isPositive()) {
                return false;
            }
        }
        Ratio[][] flow = fullFlow(prices);
        if (flow == null) {
            return false;
        }
        state.prices = prices;
        state.division = firstDivision(prices, flow);
        return true;
    }

    long price(int good, boolean below) {
        state(state.prices != null);
        index(isGood(good));
        return state.prices[good].part(below);
    }

    long best(int buyer, int what, boolean below) {
        state(state.prices != null);
        index(isBuyer(buyer) && (what == 0 || what == 1));
        Ratio best = bestOf(buyer, state.prices);
        return (what == 0 ? best : best.times(Ratio.of(state.money[buyer], 1))).part(below);
    }

    boolean likes(int buyer, int good) {
        state(state.prices != null);
        index(isBuyer(buyer) && isGood(good));
        return isLiked(buyer, good, state.prices);
    }

    long spent(int buyer, int good, int what, boolean below) {
        state(state.prices != null);
        index(isBuyer(buyer) && isGood(good) && (what == 0 || what == 1));
        Ratio spent = state.division[buyer][good];
        return (what == 0 ? spent : spent.by(state.prices[good])).part(below);
    }

    void tryPrice(int good, int above, int below) {
        index(0 <= good && good <= 2);
        argument(1 <= above && above <= 100000 && 1 <= below && below <= 100000);
        tried[good] = Ratio.of(above, below);
    }

    int test() {
        state(ready() == 0);
        Ratio[] prices = Arrays.copyOf(tried, state.goods);
        if (fullFlow(prices) != null) {
            return 0;
        }
        if (sum(prices).compareTo(Ratio.of(Arrays.stream(state.money).sum(), 1)) != 0) {
            return -1;
        }
        for (int set = 1; set < 1 << state.goods; set++) {
            if (isTooDear(set, prices)) {
                return set;
            }
        }
        throw new AssertionError("neither fair nor too dear");
    }

    private static Ratio sum(Ratio[] all) {
        Ratio sum = Ratio.ZERO;
        for (Ratio one : all) {
            sum = sum.plus(one);
        }
        return sum;
    }

    private boolean isTooDear(int set, Ratio[] prices) {
        Ratio left = Ratio.ZERO;
        for (int b = 0; b < state.money.length; b++) {
            boolean likesOne = false;
            for (int g = 0; g < state.goods; g++) {
                likesOne |= (set & 1 << g) != 0 && isLiked(b, g, prices);
            }
            left = left.plus(Ratio.of(likesOne ? state.money[b] : 0, 1));
        }
        for (int g = 0; g < state.goods; g++) {
            left = (set & 1 << g) != 0 ? left.minus(prices[g]) : left;
        }
        return Ratio.ZERO.compareTo(left) > 0;
    }

    private Ratio bestOf(int buyer, Ratio[] prices) {
        Ratio best = Ratio.ZERO;
        for (int g = 0; g < state.goods; g++) {
            Ratio here = Ratio.of(state.values[buyer][g], 1).by(prices[g]);
            best = best.compareTo(here) < 0 ? here : best;
        }
        return best;
    }

    private boolean isLiked(int buyer, int good, Ratio[] prices) {
        Ratio here = Ratio.of(state.values[buyer][good], 1).by(prices[good]);
        return here.compareTo(bestOf(buyer, prices)) == 0;
    }

    private boolean[][] likings(Ratio[] prices) {
        boolean[][] liked = new boolean[state.money.length][state.goods];
        for (int b = 0; b < liked.length; b++) {
            for (int g = 0; g < state.goods; g++) {
                liked[b][g] = isLiked(b, g, prices);
            }
        }
        return liked;
    }

    /** Some way to spend all money on liked goods, and on each good just its price; null when there is none. */
    private Ratio[][] fullFlow(Ratio[] prices) {
        boolean[][] open = likings(prices);
        Ratio[][] flow = new Ratio[state.money.length][state.goods];
        for (Ratio[] row : flow) {
            Arrays.fill(row, Ratio.ZERO);
        }
        Ratio[] unsold = prices.clone();
        for (int b = 0; b < flow.length; b++) {
            Ratio left = Ratio.of(state.money[b], 1);
            for (int g = 0; g < state.goods && left.isPositive(); g++) {
                Ratio most = left.least(unsold[g]);
                Ratio moved = push(flow, open, b, g, most);
                while (moved.isPositive()) {
                    left = left.minus(moved);
                    unsold[g] = unsold[g].minus(moved);
                    moved = push(flow, open, b, g, left.least(unsold[g]));
                }
            }
            if (left.isPositive()) {
                return null;
            }
        }
        return sum(unsold).isPositive() ? null : flow;
    }

    /** Lets a buyer spend more on a good, by way of others who change what they buy; how much more. */
    private Ratio push(Ratio[][] flow, boolean[][] open, int buyer, int good, Ratio most) {
        if (!most.isPositive()) {
            return Ratio.ZERO;
        }
        return step(flow, open, buyer, good, most, new boolean[flow.length]);
    }

    private Ratio step(Ratio[][] flow, boolean[][] open, int buyer, int good, Ratio most, boolean[] seen) {
        seen[buyer] = true;
        if (open[buyer][good]) {
            flow[buyer][good] = flow[buyer][good].plus(most);
            return most;
        }
        for (int g = 0; g < state.goods; g++) {
            for (int b = 0; open[buyer][g] && b < flow.length; b++) {
                if (!seen[b] && open[b][g] && flow[b][g].isPositive()) {
                    Ratio moved = step(flow, open, b, good, most.least(flow[b][g]), seen);
                    if (moved.isPositive()) {
                        flow[b][g] = flow[b][g].minus(moved);
                        flow[buyer][g] = flow[buyer][g].plus(moved);
                        return moved;
                    }
                }
            }
        }
        return Ratio.ZERO;
    }

    /** Of all ways the one in which buyer 0 spends most on good 0, and so on: found from any by moves round rings. */
    private Ratio[][] firstDivision(Ratio[] prices, Ratio[][] flow) {
        boolean[][] open = likings(prices);
        for (int b = 0; b < flow.length; b++) {
            for (int g = 0; g < state.goods; g++) {
                if (open[b][g]) {
                    open[b][g] = false;
                    while (grow(flow, open, b, g)) {
                        continue;
                    }
                }
            }
        }
        return flow;
    }

    /** Moves money of a buyer from another good to this one, while somebody gives this one up for it. */
    private boolean grow(Ratio[][] flow, boolean[][] open, int buyer, int good) {
        for (int from = 0; from < state.goods; from++) {
            for (int other = 0; other < flow.length; other++) {
                if (other == buyer || !open[buyer][from] || !open[other][good]) {
                    continue;
                }
                boolean[] seen = new boolean[flow.length];
                seen[buyer] = true;
                Ratio most = flow[buyer][from].least(flow[other][good]);
                Ratio moved = most.isPositive() ? step(flow, open, other, from, most, seen) : Ratio.ZERO;
                if (moved.isPositive()) {
                    flow[buyer][from] = flow[buyer][from].minus(moved);
                    flow[other][good] = flow[other][good].minus(moved);
                    flow[buyer][good] = flow[buyer][good].plus(moved);
                    return true;
                }
            }
        }
        return false;
    }
}
