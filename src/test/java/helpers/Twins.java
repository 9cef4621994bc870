/**
 * "A call that throws changes nothing": two filters have the same calls behind them, then one of them is
 * refused a call. From there on both get the same calls, and no answer may tell them apart.
 */
final class Twins {
    /** Some calls on a filter. */
    interface Calls {
        void on(ExactFilter x);
    }

    private static final int[][] NUMBERS = {
        {0, 0, 0}, {0, 1, 0}, {1, 0, 0}, {1, 0, 1}, {1, 1, 0}, {1, 1, 1}, {2, 0, 0}, {3, 0, 0}, {4, 0, 0}, {4, 1, 0},
    };
    /** Makes c, q and r fit, so that the rest of the model shows itself even if they were not. */
    private static final int[][] MENDING = {
        {1, 0, 0, 2, 1}, {1, 1, 1, 3, 1}, {1, 0, 1, 1, 2}, {4, 0, 0, 1, 5}, {4, 1, 1, 1, 3}, {4, 0, 1, 0, 1},
        {6, 0, 0, 3, 4},
    };
    private static final int MOST_STARTS = 24;

    private final ExactFilter x;
    private final StringBuilder told = new StringBuilder();

    private Twins(ExactFilter x) {
        this.x = x;
    }

    static void refused(Checks checks, String name, String exception, Calls before, Calls refusedCall) {
        ExactFilter one = new ExactFilter();
        ExactFilter other = new ExactFilter();
        before.on(one);
        before.on(other);
        checks.fails(name, exception, () -> refusedCall.on(one));
        alike(checks, name + " changes nothing", other, one);
    }

    /** Takes some 230 calls of each, so they must not have more than 280 behind them. */
    static void alike(Checks checks, String name, ExactFilter due, ExactFilter got) {
        checks.same(name, new Twins(due).story(), new Twins(got).story());
    }

    private String story() {
        answers();
        steps();
        answers();
        tell("start", Checks.outcome(x::start));
        answers();
        steps();
        answers();
        for (int[] row : MENDING) {
            tell("set", Checks.outcome(() -> x.set(row[0], row[1], row[2], row[3], row[4])));
        }
        tell("start", Checks.outcome(x::start));
        steps();
        answers();
        startsLeft();
        return told.toString();
    }

    private void answers() {
        for (int what = 0; what <= 3; what++) {
            int asked = what;
            tell("about", Checks.outcome(() -> x.about(asked)));
        }
        for (int[] row : NUMBERS) {
            tell("scaled", Checks.outcome(() -> x.scaled(row[0], row[1], row[2], 1000000)));
            tell("above", Checks.outcome(() -> x.piece(row[0], row[1], row[2], 0, 0)));
            tell("below", Checks.outcome(() -> x.piece(row[0], row[1], row[2], 1, 0)));
        }
    }

    private void steps() {
        tell("predict", Checks.outcome(x::predict));
        tell("measure", Checks.outcome(() -> x.measure(3, 7)));
    }

    private void startsLeft() {
        tell("begin", Checks.outcome(() -> x.begin(1)));
        for (int start = 0; start <= MOST_STARTS; start++) {
            tell("start", Checks.outcome(x::start));
        }
    }

    private void tell(String call, String outcome) {
        told.append(call).append(' ').append(outcome).append("; ");
    }
}
