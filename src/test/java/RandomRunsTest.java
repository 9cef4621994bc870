import java.util.Random;

/**
 * Promises 1 to 12 together: runs of 512 calls, right and wrong ones, on ExactFilter and on PlainFilter,
 * which must answer alike. The seeds are fixed, so every run of this test is the same.
 */
public final class RandomRunsTest {
    private static final int RUNS = 400;
    private static final int CALLS = 512;

    private final Checks checks;
    private final int run;
    private final Random random;
    private final ExactFilter x = new ExactFilter();
    private final PlainFilter plain = new PlainFilter();
    /** How often, in a hundred, an argument is drawn without regard to what is allowed. */
    private final int wildness;
    private final boolean longNumbers;

    private RandomRunsTest(Checks checks, int run) {
        this.checks = checks;
        this.run = run;
        random = new Random(run);
        wildness = run % 4 == 0 ? 15 : 2;
        longNumbers = run % 3 == 0;
    }

    public static void main(String[] args) {
        Checks checks = new Checks();
        for (int run = 0; run < RUNS && checks.wrong() < 20; run++) {
            new RandomRunsTest(checks, run).calls();
        }
        checks.end();
    }

    private void calls() {
        int first = random.nextInt(4) > 0 ? 2 : 1;
        both("begin(" + first + ")", () -> x.begin(first), () -> plain.begin(first));
        for (int call = 2; call <= CALLS; call++) {
            int kind = random.nextInt(100);
            if (kind < 1) {
                int size = random.nextInt(4);
                both("begin(" + size + ")", () -> x.begin(size), () -> plain.begin(size));
            } else if (kind < 25) {
                tell();
            } else if (kind < 31) {
                both("start()", x::start, plain::start);
            } else if (kind < 42) {
                bothAnswer("predict()", x::predict, plain::predict);
            } else if (kind < 52) {
                int above = above();
                int below = below();
                bothAnswer("measure(" + above + ", " + below + ")",
                        () -> x.measure(above, below), () -> plain.measure(above, below));
            } else {
                ask();
            }
        }
    }

    private void tell() {
        int part = between(0, 6);
        int i = between(0, 1);
        int j = part == 1 || part == 2 || part == 4 ? between(0, 1) : between(0, 0);
        boolean mostlyFit = (part == 1 || part == 4) && i == j || part == 6;
        int drawn = above();
        int above = mostlyFit && random.nextInt(8) > 0 ? Math.abs(drawn) : drawn;
        int below = below();
        both("set(" + part + ", " + i + ", " + j + ", " + above + ", " + below + ")",
                () -> x.set(part, i, j, above, below), () -> plain.set(part, i, j, above, below));
    }

    private void ask() {
        int what = between(0, 4);
        int i = what == 2 || what == 3 ? between(0, 0) : between(0, 1);
        int j = what == 1 ? between(0, 1) : between(0, 0);
        String place = what + ", " + i + ", " + j;
        int side = between(0, 1);
        int k = random.nextInt(4) > 0 ? between(0, 4) : between(0, 40);
        int factor = random.nextBoolean() ? between(1, 1000000) : 1000000;
        int above = above();
        int below = below();
        switch (random.nextInt(7)) {
            case 0 -> bothAnswer("sign(" + place + ")", () -> x.sign(what, i, j), () -> plain.sign(what, i, j));
            case 1 -> bothAnswer("pieces(" + place + ", " + side + ")",
                    () -> x.pieces(what, i, j, side), () -> plain.pieces(what, i, j, side));
            case 2 -> bothAnswer("scaled(" + place + ", " + factor + ")",
                    () -> x.scaled(what, i, j, factor), () -> plain.scaled(what, i, j, factor));
            case 3 -> bothAnswer("compare(" + place + ", " + above + ", " + below + ")",
                    () -> x.compare(what, i, j, above, below), () -> plain.compare(what, i, j, above, below));
            case 4 -> bothAnswer("about(" + what + ")", () -> x.about(what), () -> plain.about(what));
            default -> bothAnswer("piece(" + place + ", " + side + ", " + k + ")",
                    () -> x.piece(what, i, j, side, k), () -> plain.piece(what, i, j, side, k));
        }
    }

    private int above() {
        if (longNumbers) {
            return between(15, 20) * (random.nextBoolean() ? 1 : -1);
        }
        return random.nextInt(3) == 0 ? between(-1, 1) : between(-20, 20);
    }

    private int below() {
        if (longNumbers) {
            return between(15, 20);
        }
        return random.nextInt(3) == 0 ? between(1, 3) : between(1, 20);
    }

    private int between(int least, int most) {
        if (random.nextInt(100) < wildness) {
            return switch (random.nextInt(6)) {
                case 0 -> least - 1;
                case 1 -> most + 1;
                case 2 -> Integer.MIN_VALUE;
                case 3 -> Integer.MAX_VALUE;
                case 4 -> -random.nextInt(100);
                default -> random.nextInt();
            };
        }
        return least + random.nextInt(most - least + 1);
    }

    private void both(String call, Checks.Doing doing, Checks.Doing plainDoing) {
        checks.same("run " + run + ": " + call, Checks.outcome(plainDoing), Checks.outcome(doing));
    }

    private void bothAnswer(String call, Checks.Asking asking, Checks.Asking plainAsking) {
        checks.same("run " + run + ": " + call, Checks.outcome(plainAsking), Checks.outcome(asking));
    }
}
