/** What the tests have in common: each wrong answer is printed, and end() fails if there was one. */
final class Checks {
    static final String STATE = "IllegalStateException";
    static final String ARGUMENT = "IllegalArgumentException";
    static final String ARITHMETIC = "ArithmeticException";

    /** A call whose answer is looked at. */
    interface Asking {
        long answer();
    }

    /** A call without an answer. */
    interface Doing {
        void run();
    }

    private int wrong;
    private int looked;

    void due(String call, long want, Asking asking) {
        String got = outcome(asking);
        same(call, Long.toString(want), got);
    }

    void fails(String call, String exception, Asking asking) {
        same(call, exception, outcome(asking));
    }

    void fails(String call, String exception, Doing doing) {
        same(call, exception, outcome(doing));
    }

    void works(String call, Doing doing) {
        same(call, "nothing", outcome(doing));
    }

    void same(String call, String want, String got) {
        looked++;
        if (!want.equals(got)) {
            wrong++;
            System.out.println(call + " answered " + got + ", due is " + want);
        }
    }

    int wrong() {
        return wrong;
    }

    void end() {
        System.out.println(looked + " answers looked at, " + wrong + " wrong");
        if (wrong != 0) {
            System.exit(1);
        }
    }

    static String outcome(Asking asking) {
        try {
            return Long.toString(asking.answer());
        } catch (RuntimeException thrown) {
            return thrown.getClass().getSimpleName();
        }
    }

    static String outcome(Doing doing) {
        try {
            doing.run();
            return "nothing";
        } catch (RuntimeException thrown) {
            return thrown.getClass().getSimpleName();
        }
    }

    /** Looks at a whole number of the filter that is short enough: sign, above and below, in lowest terms. */
    void number(ExactFilter x, String name, int[] place, long above, long below) {
        due(name + " sign", Long.signum(above), () -> x.sign(place[0], place[1], place[2]));
        side(x, name + " above", place, 0, Math.abs(above));
        side(x, name + " below", place, 1, below);
    }

    private void side(ExactFilter x, String name, int[] place, int side, long want) {
        int count = 0;
        for (long left = want; left != 0; left >>>= 16) {
            int k = count;
            long piece = left & 0xFFFF;
            due(name + " piece " + k, piece, () -> x.piece(place[0], place[1], place[2], side, k));
            count++;
        }
        int pieces = count;
        due(name + " pieces", pieces, () -> x.pieces(place[0], place[1], place[2], side));
        due(name + " piece beyond", 0, () -> x.piece(place[0], place[1], place[2], side, pieces));
    }

    static int[] mean(int i) {
        return new int[] {0, i, 0};
    }

    static int[] covariance(int i, int j) {
        return new int[] {1, i, j};
    }

    static int[] surprise() {
        return new int[] {2, 0, 0};
    }

    static int[] variance() {
        return new int[] {3, 0, 0};
    }

    static int[] gain(int i) {
        return new int[] {4, i, 0};
    }
}
