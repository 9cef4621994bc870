/** Promises 7 (sign), 8 (pieces), 9 (piece), 10 (scaled) and 11 (compare). */
public final class AnswersTest {
    private static final Checks checks = new Checks();
    private static final long MOST = 1000000000000000000L;

    public static void main(String[] args) {
        signs();
        everyAnswerNeedsAStart();
        everyAnswerNeedsANumber();
        sides();
        piecesOfNothing();
        piecesAtTheEdgeOfSixteenBits();
        longPieces();
        scaledGoesDown();
        scaledEndsAtItsLimit();
        scaledRefusesOtherFactors();
        compares();
        compareRefusesWhatIsNoFraction();
        checks.end();
    }

    private static ExactFilter withMean(int above, int below) {
        ExactFilter x = new ExactFilter();
        x.set(0, 0, 0, above, below);
        x.start();
        return x;
    }

    private static void signs() {
        int[] above = {-20, -1, 0, 1, 20};
        int[] due = {-1, -1, 0, 1, 1};
        for (int k = 0; k < above.length; k++) {
            ExactFilter x = withMean(above[k], 20);
            checks.due("sign of " + above[k] + "/20", due[k], () -> x.sign(0, 0, 0));
        }
        ExactFilter x = new ExactFilter();
        x.begin(2);
        x.set(1, 0, 1, -1, 2);
        x.set(5, 0, 0, 0, 1);
        x.start();
        x.measure(-3, 1);
        checks.due("sign of the covariance beside", -1, () -> x.sign(1, 0, 1));
        checks.due("sign of the covariance", 1, () -> x.sign(1, 1, 1));
        checks.due("sign of the surprise", -1, () -> x.sign(2, 0, 0));
        checks.due("sign of its variance", 1, () -> x.sign(3, 0, 0));
        checks.due("sign of gain 0", -1, () -> x.sign(4, 0, 0));
        checks.due("sign of gain 1", 1, () -> x.sign(4, 1, 0));
        x.measure(-3, 2);
        checks.due("sign of no surprise", 0, () -> x.sign(2, 0, 0));
    }

    /** All five questions with right arguments of their own. */
    private static void allFail(ExactFilter x, String name, String exception, int what, int i, int j) {
        String place = name + " (" + what + ", " + i + ", " + j + ")";
        checks.fails(place + " sign", exception, () -> x.sign(what, i, j));
        checks.fails(place + " pieces", exception, () -> x.pieces(what, i, j, 0));
        checks.fails(place + " piece", exception, () -> x.piece(what, i, j, 1, 0));
        checks.fails(place + " scaled", exception, () -> x.scaled(what, i, j, 1));
        checks.fails(place + " compare", exception, () -> x.compare(what, i, j, 1, 1));
    }

    private static void everyAnswerNeedsAStart() {
        ExactFilter x = new ExactFilter();
        for (int what = -1; what <= 5; what++) {
            allFail(x, "before start", Checks.STATE, what, 0, 0);
            allFail(x, "before start", Checks.STATE, what, 7, -7);
        }
        checks.fails("side before start", Checks.STATE, () -> x.pieces(0, 0, 0, 2));
        checks.fails("k before start", Checks.STATE, () -> x.piece(0, 0, 0, 0, -1));
        checks.fails("factor before start", Checks.STATE, () -> x.scaled(0, 0, 0, 0));
        checks.fails("fraction before start", Checks.STATE, () -> x.compare(0, 0, 0, 1, 0));
        x.start();
        for (int what = 2; what <= 4; what++) {
            allFail(x, "before a measurement", Checks.STATE, what, 0, 0);
            allFail(x, "before a measurement", Checks.STATE, what, 1, 0);
        }
        checks.fails("side before a measurement", Checks.STATE, () -> x.pieces(2, 0, 0, 2));
        checks.fails("k before a measurement", Checks.STATE, () -> x.piece(3, 0, 0, 0, -1));
        checks.fails("factor before a measurement", Checks.STATE, () -> x.scaled(4, 0, 0, 0));
        checks.fails("fraction before a measurement", Checks.STATE, () -> x.compare(2, 0, 0, 1, 0));
        allFail(x, "no such number before a measurement", Checks.ARGUMENT, 5, 0, 0);
        allFail(x, "no such number before a measurement", Checks.ARGUMENT, -1, 0, 0);
        x.measure(1, 1);
        x.predict();
        checks.due("the measurement stays through a prediction", 1, () -> x.sign(2, 0, 0));
        checks.works("set", () -> x.set(5, 0, 0, 3, 1));
        checks.due("and through a change", 2, () -> x.scaled(3, 0, 0, 1));
    }

    private static ExactFilter measured(int size) {
        ExactFilter x = new ExactFilter();
        x.begin(size);
        x.start();
        x.measure(1, 1);
        return x;
    }

    private static void everyAnswerNeedsANumber() {
        for (int size = 1; size <= 2; size++) {
            for (int what = -2; what <= 6; what++) {
                ExactFilter x = measured(size);
                for (int i = -1; i <= 3; i++) {
                    for (int j = -1; j <= 3; j++) {
                        look(x, size, what, i, j);
                    }
                }
            }
            ExactFilter x = measured(size);
            look(x, size, Integer.MAX_VALUE, 0, 0);
            look(x, size, Integer.MIN_VALUE, 0, 0);
            look(x, size, 1, Integer.MAX_VALUE, 0);
            look(x, size, 1, 0, Integer.MIN_VALUE);
        }
    }

    private static void look(ExactFilter x, int size, int what, int i, int j) {
        boolean there = what >= 0 && what <= 4
                && i >= 0 && i < (what == 2 || what == 3 ? 1 : size)
                && j >= 0 && j < (what == 1 ? size : 1);
        if (there) {
            String place = "size " + size + " (" + what + ", " + i + ", " + j + ")";
            checks.works(place + " sign", () -> x.sign(what, i, j));
            checks.works(place + " pieces", () -> x.pieces(what, i, j, 0));
            checks.works(place + " piece", () -> x.piece(what, i, j, 1, 0));
            checks.works(place + " scaled", () -> x.scaled(what, i, j, 1));
            checks.works(place + " compare", () -> x.compare(what, i, j, 1, 1));
        } else {
            allFail(x, "size " + size, Checks.ARGUMENT, what, i, j);
        }
    }

    private static void sides() {
        ExactFilter x = withMean(-6, 4);
        checks.due("pieces above", 1, () -> x.pieces(0, 0, 0, 0));
        checks.due("pieces below", 1, () -> x.pieces(0, 0, 0, 1));
        checks.due("piece above, without its sign", 3, () -> x.piece(0, 0, 0, 0, 0));
        checks.due("piece below", 2, () -> x.piece(0, 0, 0, 1, 0));
        int[] wrong = {-1, 2, Integer.MIN_VALUE, Integer.MAX_VALUE};
        for (int side : wrong) {
            checks.fails("pieces of side " + side, Checks.ARGUMENT, () -> x.pieces(0, 0, 0, side));
            checks.fails("piece of side " + side, Checks.ARGUMENT, () -> x.piece(0, 0, 0, side, 0));
        }
        int[] beyond = {1, 2, 1000, Integer.MAX_VALUE};
        for (int k : beyond) {
            checks.due("piece " + k, 0, () -> x.piece(0, 0, 0, 0, k));
            checks.due("piece " + k + " below", 0, () -> x.piece(0, 0, 0, 1, k));
        }
        checks.fails("piece -1", Checks.ARGUMENT, () -> x.piece(0, 0, 0, 0, -1));
        checks.fails("piece of the least k", Checks.ARGUMENT, () -> x.piece(0, 0, 0, 1, Integer.MIN_VALUE));
    }

    private static void piecesOfNothing() {
        ExactFilter x = withMean(0, 7);
        checks.due("0 has no pieces above", 0, () -> x.pieces(0, 0, 0, 0));
        checks.due("piece 0 of 0", 0, () -> x.piece(0, 0, 0, 0, 0));
        checks.due("0 is 0 / 1", 1, () -> x.pieces(0, 0, 0, 1));
        checks.due("1 below", 1, () -> x.piece(0, 0, 0, 1, 0));
    }

    /** Predicting four times with f 16 makes 1 to 16 to the eighth, 2 to the 32nd; q makes it one less. */
    private static void piecesAtTheEdgeOfSixteenBits() {
        ExactFilter x = new ExactFilter();
        x.set(2, 0, 0, 16, 1);
        x.set(0, 0, 0, 1, 1);
        x.start();
        x.predict();
        x.predict();
        checks.number(x, "two to the 16th", Checks.covariance(0, 0), 1L << 16, 1);
        x.predict();
        x.set(3, 0, 0, -1, 1);
        x.predict();
        checks.number(x, "two to the 16th less one", Checks.mean(0), (1L << 16) - 1, 1);
        checks.number(x, "two to the 32nd", Checks.covariance(0, 0), 1L << 32, 1);
        ExactFilter y = new ExactFilter();
        y.set(2, 0, 0, 1, 16);
        y.set(0, 0, 0, -1, 1);
        y.start();
        y.predict();
        y.predict();
        y.predict();
        y.predict();
        checks.number(y, "one by two to the 16th", Checks.mean(0), -1, 1L << 16);
        checks.number(y, "one by two to the 32nd", Checks.covariance(0, 0), 1, 1L << 32);
    }

    /** 20 times 1600 to the fourth is 5 times 2 to the 18th times 10 to the eighth. */
    private static ExactFilter large(int lowerRow) {
        ExactFilter x = new ExactFilter();
        x.begin(2);
        for (int i = 0; i < 2; i++) {
            for (int j = 0; j < 2; j++) {
                x.set(1, i, j, 20, 1);
                x.set(2, i, j, 20, 1);
            }
        }
        x.start();
        x.predict();
        x.predict();
        x.predict();
        x.set(2, 1, 0, lowerRow, 1);
        x.set(2, 1, 1, lowerRow, 1);
        x.predict();
        return x;
    }

    private static void longPieces() {
        ExactFilter x = large(-20);
        checks.number(x, "a long number", Checks.covariance(0, 0), 131072000000000L, 1);
        checks.number(x, "a long number below 0", Checks.covariance(0, 1), -131072000000000L, 1);
        checks.due("its pieces", 3, () -> x.pieces(1, 0, 1, 0));
        x.set(5, 0, 0, 1, 19);
        x.set(5, 1, 0, 1, 17);
        x.measure(20, 17);
        // h p h' is p (1/19 - 1/17) squared, and s is that and 1.
        checks.number(x, "its variance", Checks.variance(), 131072000000000L * 4 + 104329, 104329);
    }

    private static void scaledGoesDown() {
        long[][] due = {
            {7, 2, 1, 3}, {-7, 2, 1, -4}, {7, 2, 2, 7}, {-7, 2, 2, -7}, {-1, 20, 1, -1}, {1, 20, 1, 0},
            {0, 5, 1000000, 0}, {20, 3, 1000000, 6666666}, {-20, 3, 1000000, -6666667}, {20, 1, 1000000, 20000000},
            {-20, 20, 1, -1}, {-19, 20, 1, -1}, {-1, 3, 3, -1}, {-1, 3, 2, -1}, {-1, 3, 4, -2},
        };
        for (long[] row : due) {
            ExactFilter x = withMean((int) row[0], (int) row[1]);
            int factor = (int) row[2];
            checks.due(row[0] + "/" + row[1] + " times " + factor, row[3], () -> x.scaled(0, 0, 0, factor));
        }
    }

    private static void scaledEndsAtItsLimit() {
        ExactFilter x = large(-20);
        checks.due("within", 131072000000000L, () -> x.scaled(1, 0, 0, 1));
        checks.due("within below 0", -131072000000000L, () -> x.scaled(1, 0, 1, 1));
        checks.due("just within", 999948288000000000L, () -> x.scaled(1, 0, 0, 7629));
        checks.due("just within below 0", -999948288000000000L, () -> x.scaled(1, 0, 1, 7629));
        int[] beyond = {7630, 70368, 70369, 140737, 140738, 1000000};
        for (int factor : beyond) {
            checks.due("beyond by " + factor, MOST, () -> x.scaled(1, 1, 1, factor));
            checks.due("beyond below 0 by " + factor, -MOST, () -> x.scaled(1, 1, 0, factor));
        }
    }

    private static void scaledRefusesOtherFactors() {
        ExactFilter x = withMean(1, 1);
        int[] wrong = {0, -1, 1000001, Integer.MIN_VALUE, Integer.MAX_VALUE};
        for (int factor : wrong) {
            checks.fails("factor " + factor, Checks.ARGUMENT, () -> x.scaled(0, 0, 0, factor));
        }
        checks.due("factor 1", 1, () -> x.scaled(0, 0, 0, 1));
        checks.due("factor 1000000", 1000000, () -> x.scaled(0, 0, 0, 1000000));
    }

    private static void compares() {
        int[][] due = {
            {1, 2, 1, 2, 0}, {1, 2, 10, 20, 0}, {1, 2, 9, 19, 1}, {1, 2, 10, 19, -1}, {-1, 2, -10, 20, 0},
            {-1, 2, -9, 19, -1}, {-1, 2, -10, 19, 1}, {0, 1, 0, 20, 0}, {0, 1, 1, 20, -1}, {0, 1, -1, 20, 1},
            {-20, 1, 20, 1, -1}, {20, 1, -20, 1, 1}, {20, 1, 20, 1, 0}, {19, 20, 18, 19, 1},
        };
        for (int[] row : due) {
            ExactFilter x = withMean(row[0], row[1]);
            checks.due(row[0] + "/" + row[1] + " against " + row[2] + "/" + row[3], row[4],
                    () -> x.compare(0, 0, 0, row[2], row[3]));
        }
        ExactFilter x = large(-20);
        checks.due("a long number", 1, () -> x.compare(1, 0, 0, 20, 1));
        checks.due("a long number below 0", -1, () -> x.compare(1, 0, 1, -20, 1));
        x.measure(1, 1);
        checks.due("the variance 1", 0, () -> x.compare(3, 0, 0, 1, 1));
        checks.due("the gain 0", 0, () -> x.compare(4, 0, 0, 0, 1));
        checks.due("the surprise 1", 0, () -> x.compare(2, 0, 0, 20, 20));
    }

    private static void compareRefusesWhatIsNoFraction() {
        ExactFilter x = withMean(1, 1);
        int[][] wrong = {{21, 1}, {-21, 1}, {1, 0}, {1, -1}, {1, 21}, {Integer.MIN_VALUE, 1}, {1, Integer.MIN_VALUE},
            {Integer.MAX_VALUE, 1}, {1, Integer.MAX_VALUE}};
        for (int[] row : wrong) {
            checks.fails("compare with " + row[0] + "/" + row[1], Checks.ARGUMENT,
                    () -> x.compare(0, 0, 0, row[0], row[1]));
        }
        checks.fails("such a number is looked for first, but the exception is the same", Checks.ARGUMENT,
                () -> x.compare(5, 0, 0, 1, 0));
    }
}
