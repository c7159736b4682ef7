import java.util.function.IntSupplier;

/** Counts the answers that are not the ones that are due, and prints each of them. */
final class Due {
    private final String test;
    private int looked;
    private int wrong;

    Due(String test) {
        this.test = test;
    }

    void answer(String call, int want, IntSupplier made) {
        same(call, Integer.toString(want), outcome(made));
    }

    void thrown(String call, Class<? extends RuntimeException> want, IntSupplier made) {
        same(call, want.getSimpleName(), outcome(made));
    }

    void same(String what, Object want, Object got) {
        looked++;
        if (!want.equals(got)) {
            wrong++;
            System.out.println(test + ": " + what + " answered " + got + ", due is " + want);
        }
    }

    boolean anyWrong() {
        return wrong > 0;
    }

    void close() {
        System.out.println(test + ": " + looked + " answers looked at, " + wrong + " wrong");
        if (wrong > 0 || looked == 0) {
            System.exit(1);
        }
    }

    static String outcome(IntSupplier call) {
        try {
            return Integer.toString(call.getAsInt());
        } catch (RuntimeException e) {
            return e.getClass().getSimpleName();
        }
    }
}
