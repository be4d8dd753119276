import java.util.function.Consumer;
import java.util.function.Supplier;

/** Checks that a call throws what is due, and that it changes nothing: a desk made alike, without it, answers alike. */
final class Refused {
    static void argument(String what, Supplier<MarketDesk> maker, Consumer<MarketDesk> call) {
        by(IllegalArgumentException.class, what, maker, call);
    }

    static void index(String what, Supplier<MarketDesk> maker, Consumer<MarketDesk> call) {
        by(IndexOutOfBoundsException.class, what, maker, call);
    }

    static void state(String what, Supplier<MarketDesk> maker, Consumer<MarketDesk> call) {
        by(IllegalStateException.class, what, maker, call);
    }

    static void unsupported(String what, Supplier<MarketDesk> maker, Consumer<MarketDesk> call) {
        by(UnsupportedOperationException.class, what, maker, call);
    }

    private static void by(Class<? extends RuntimeException> due, String what, Supplier<MarketDesk> maker,
            Consumer<MarketDesk> call) {
        MarketDesk x = maker.get();
        Check.thrown(what, due, () -> call.accept(x));
        Check.same(what + " changes nothing", Picture.whole(maker.get()), Picture.whole(x));
    }
}
