/** Compares answers with what is due, and prints those that differ. */
final class Check {
    private static int wrong = 0;
    private static int made = 0;

    interface Call {
        Object answer();
    }

    interface Order {
        void give();
    }

    /** The answer as text, "done" for a call without one, or throws. and the exception's name. */
    static String outcome(Call call) {
        try {
            return String.valueOf(call.answer());
        } catch (RuntimeException e) {
            return "throws." + e.getClass().getSimpleName();
        }
    }

    static String outcomeOf(Order order) {
        return outcome(() -> {
            order.give();
            return "done";
        });
    }

    static void due(String what, Object want, Call call) {
        same(what, String.valueOf(want), outcome(call));
    }

    static void done(String what, Order order) {
        same(what, "done", outcomeOf(order));
    }

    static void thrown(String what, Class<? extends RuntimeException> want, Order order) {
        same(what, "throws." + want.getSimpleName(), outcomeOf(order));
    }

    static void same(String what, Object want, Object got) {
        made++;
        if (!want.equals(got)) {
            wrong++;
            System.out.println(what + " answered " + got + ", due is " + want);
        }
    }

    static void end() {
        System.out.println(made + " answers, " + wrong + " not as due");
        if (wrong != 0 || made == 0) {
            System.exit(1);
        }
    }
}
