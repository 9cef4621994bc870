/**
 * The boundary cases of promises 4 (start), 5 (predict) and 6 (measure): a test for each sentence that names one.
 * That refused calls change nothing is in RefusedCallsTest.
 */
public final class StepBoundariesTest {
    private static final Checks checks = new Checks();
    private static final int C = 1;
    private static final int Q = 4;

    /** Numbers of a diagonal, and such as stand beside it, round what makes a covariance fit. */
    private static final int[][] DIAGONAL = {{-20, 1}, {-1, 20}, {0, 7}, {1, 20}, {4, 3}, {3, 4}, {20, 19}, {20, 1}};
    private static final int[][] BESIDE = {{-20, 1}, {-20, 19}, {-1, 1}, {-1, 20}, {0, 20}, {1, 20}, {19, 20}, {1, 1},
        {20, 19}, {20, 1}};

    public static void main(String[] args) {
        startSetsMeanAndCovarianceAgain();
        startHasNoStepsYet();
        startNeedsAFitCovarianceOfSizeOne();
        startNeedsAFitCovarianceOfSizeTwo();
        startNeedsNothingElseToBeFit();
        startIsThereTwentyFourTimes();
        beginGivesNoNewStarts();
        refusedStartsAreNotCounted();
        theLastStartGoesOn();
        predictCountsToFour();
        predictNeedsAStart();
        predictNeedsAFitCovarianceOfSizeOne();
        predictNeedsAFitCovarianceOfSizeTwo();
        predictNeedsNothingElseToBeFit();
        measureCountsToThree();
        measureNeedsAStart();
        measureTakesFractionsAlone();
        measureNeedsAFitR();
        measureNeedsNothingElseToBeFit();
        measureNeedsAVariance();
        measureTakesTheLeastVariance();
        stepsComeInAnyOrder();
        aRefusedMeasurementIsNotTheLatest();
        checks.end();
    }

    private static ExactFilter ofSizeTwo() {
        ExactFilter x = new ExactFilter();
        x.begin(2);
        return x;
    }

    /** "STARTING sets them to m and c"; "Starts (again)". */
    private static void startSetsMeanAndCovarianceAgain() {
        ExactFilter x = ofSizeTwo();
        x.set(0, 1, 0, -20, 8);
        x.set(C, 0, 1, -2, 6);
        x.set(3, 0, 0, 1, 1);
        for (int start = 1; start <= 3; start++) {
            x.start();
            checks.number(x, "mean 0", Checks.mean(0), 0, 1);
            checks.number(x, "mean 1", Checks.mean(1), -5, 2);
            checks.number(x, "covariance 00", Checks.covariance(0, 0), 1, 1);
            checks.number(x, "covariance 01", Checks.covariance(0, 1), -1, 3);
            checks.number(x, "covariance 10", Checks.covariance(1, 0), -1, 3);
            checks.number(x, "covariance 11", Checks.covariance(1, 1), 1, 1);
            x.predict();
            x.measure(start, 1);
        }
    }

    /** "no predictions, no measurements yet". */
    private static void startHasNoStepsYet() {
        ExactFilter x = new ExactFilter();
        for (int start = 1; start <= 2; start++) {
            x.start();
            checks.due("predictions", 0, () -> x.about(2));
            checks.due("measurements", 0, () -> x.about(3));
            for (int what = 2; what <= 4; what++) {
                int asked = what;
                checks.fails("sign(" + what + ", 0, 0)", Checks.STATE, () -> x.sign(asked, 0, 0));
            }
            for (int step = 1; step <= 4; step++) {
                checks.due("predict", step, x::predict);
            }
            for (int step = 1; step <= 3; step++) {
                checks.due("measure", step, () -> x.measure(1, 1));
            }
        }
    }

    /** "it is FIT if no number of its diagonal is below 0". */
    private static void startNeedsAFitCovarianceOfSizeOne() {
        for (int[] row : DIAGONAL) {
            ExactFilter x = new ExactFilter();
            x.set(C, 0, 0, row[0], row[1]);
            started("start with c " + row[0] + "/" + row[1], row[0] >= 0, x);
        }
    }

    private static void started(String name, boolean fit, ExactFilter x) {
        if (fit) {
            checks.works(name, x::start);
        } else {
            checks.fails(name, Checks.STATE, x::start);
        }
        checks.due(name + ": about(1)", fit ? 1 : 0, () -> x.about(1));
    }

    /** "nor (of size two) the product of both less the square of the one beside them". */
    private static boolean isFit(int[] first, int[] second, int[] beside) {
        long product = (long) first[0] * second[0] * beside[1] * beside[1];
        long square = (long) beside[0] * beside[0] * first[1] * second[1];
        return first[0] >= 0 && second[0] >= 0 && product - square >= 0;
    }

    private static ExactFilter told(int part, int[] first, int[] second, int[] beside) {
        ExactFilter x = ofSizeTwo();
        x.set(part, 0, 0, first[0], first[1]);
        x.set(part, 1, 1, second[0], second[1]);
        x.set(part, 1, 0, beside[0], beside[1]);
        return x;
    }

    private static String name(int[] first, int[] second, int[] beside) {
        return first[0] + "/" + first[1] + " " + second[0] + "/" + second[1] + " beside " + beside[0] + "/" + beside[1];
    }

    private static void startNeedsAFitCovarianceOfSizeTwo() {
        int fit = 0;
        int like = 0;
        for (int[] first : DIAGONAL) {
            for (int[] second : DIAGONAL) {
                for (int[] beside : BESIDE) {
                    boolean due = isFit(first, second, beside);
                    started("start with c " + name(first, second, beside), due, told(C, first, second, beside));
                    fit += due ? 1 : 0;
                    like += due && beside[0] != 0
                            && first[0] * second[0] * beside[1] * beside[1]
                                    == beside[0] * beside[0] * first[1] * second[1] ? 1 : 0;
                }
            }
        }
        checks.same("there are fit ones, and such without a difference", "true true", (fit > 50) + " " + (like > 4));
    }

    /** Only "if c isn't fit". */
    private static void startNeedsNothingElseToBeFit() {
        ExactFilter x = ofSizeTwo();
        x.set(Q, 0, 0, -1, 1);
        x.set(6, 0, 0, -1, 1);
        checks.works("start with unfit q and r", x::start);
    }

    /** "or there were 24 starts". */
    private static void startIsThereTwentyFourTimes() {
        ExactFilter x = new ExactFilter();
        for (int start = 1; start <= 24; start++) {
            checks.works("start " + start, x::start);
        }
        checks.fails("start 25", Checks.STATE, x::start);
        checks.fails("start 26", Checks.STATE, x::start);
    }

    /** "(begin() doesn't change that)". */
    private static void beginGivesNoNewStarts() {
        ExactFilter x = new ExactFilter();
        for (int start = 1; start <= 24; start++) {
            x.begin(1 + start % 2);
            checks.works("start " + start, x::start);
        }
        for (int size = 1; size <= 2; size++) {
            x.begin(size);
            checks.fails("start 25 of size " + size, Checks.STATE, x::start);
            checks.due("not started", 0, () -> x.about(1));
        }
    }

    private static void refusedStartsAreNotCounted() {
        ExactFilter x = new ExactFilter();
        x.set(C, 0, 0, -1, 1);
        for (int times = 1; times <= 30; times++) {
            checks.fails("start with unfit c", Checks.STATE, x::start);
        }
        x.set(C, 0, 0, 1, 1);
        for (int start = 1; start <= 24; start++) {
            checks.works("start " + start, x::start);
        }
        checks.fails("start 25", Checks.STATE, x::start);
    }

    private static void theLastStartGoesOn() {
        ExactFilter x = new ExactFilter();
        for (int start = 1; start <= 24; start++) {
            x.start();
        }
        x.set(0, 0, 0, 9, 1);
        checks.due("predict", 1, x::predict);
        checks.fails("start 25", Checks.STATE, x::start);
        checks.number(x, "mean", Checks.mean(0), 0, 1);
        checks.due("predict", 2, x::predict);
        checks.due("measure", 1, () -> x.measure(4, 1));
        checks.number(x, "mean", Checks.mean(0), 2, 1);
    }

    /** "how many predictions there were"; "IllegalStateException if ... there were four". */
    private static void predictCountsToFour() {
        ExactFilter x = new ExactFilter();
        x.set(3, 0, 0, 1, 2);
        for (int start = 1; start <= 2; start++) {
            x.start();
            for (int step = 1; step <= 4; step++) {
                checks.due("predict " + step, step, x::predict);
            }
            checks.fails("predict 5", Checks.STATE, x::predict);
            checks.fails("predict 6", Checks.STATE, x::predict);
            checks.number(x, "mean", Checks.mean(0), 2, 1);
        }
    }

    /** "IllegalStateException if it hasn't started". */
    private static void predictNeedsAStart() {
        ExactFilter x = new ExactFilter();
        checks.fails("predict at first", Checks.STATE, x::predict);
        x.set(C, 0, 0, -1, 1);
        checks.fails("start", Checks.STATE, x::start);
        checks.fails("predict behind a refused start", Checks.STATE, x::predict);
        x.set(C, 0, 0, 1, 1);
        x.start();
        checks.due("predict", 1, x::predict);
        x.begin(1);
        checks.fails("predict behind begin(1)", Checks.STATE, x::predict);
        x.begin(2);
        checks.fails("predict behind begin(2)", Checks.STATE, x::predict);
        x.start();
        checks.due("predict", 1, x::predict);
    }

    private static void predicted(String name, boolean fit, ExactFilter x) {
        if (fit) {
            checks.due(name, 1, x::predict);
        } else {
            checks.fails(name, Checks.STATE, x::predict);
        }
    }

    /** "q isn't fit". */
    private static void predictNeedsAFitCovarianceOfSizeOne() {
        for (int[] row : DIAGONAL) {
            ExactFilter x = new ExactFilter();
            x.set(Q, 0, 0, row[0], row[1]);
            x.start();
            predicted("predict with q " + row[0] + "/" + row[1], row[0] >= 0, x);
        }
    }

    private static void predictNeedsAFitCovarianceOfSizeTwo() {
        for (int[] first : DIAGONAL) {
            for (int[] second : DIAGONAL) {
                for (int[] beside : BESIDE) {
                    ExactFilter x = told(Q, first, second, beside);
                    x.start();
                    predicted("predict with q " + name(first, second, beside), isFit(first, second, beside), x);
                }
            }
        }
    }

    private static void predictNeedsNothingElseToBeFit() {
        ExactFilter x = ofSizeTwo();
        x.start();
        x.set(C, 0, 0, -1, 1);
        x.set(6, 0, 0, -1, 1);
        checks.due("predict with unfit c and r", 1, x::predict);
    }

    /** "how many measurements there were"; "IllegalStateException if ... there were three". */
    private static void measureCountsToThree() {
        ExactFilter x = new ExactFilter();
        for (int start = 1; start <= 2; start++) {
            x.start();
            for (int step = 1; step <= 3; step++) {
                checks.due("measure " + step, step, () -> x.measure(4, 1));
            }
            checks.fails("measure 4", Checks.STATE, () -> x.measure(4, 1));
            checks.fails("measure 5", Checks.STATE, () -> x.measure(4, 1));
            checks.number(x, "mean", Checks.mean(0), 3, 1);
            checks.number(x, "covariance", Checks.covariance(0, 0), 1, 4);
        }
    }

    /** "IllegalStateException if it hasn't started". */
    private static void measureNeedsAStart() {
        ExactFilter x = new ExactFilter();
        checks.fails("measure at first", Checks.STATE, () -> x.measure(1, 1));
        x.set(C, 0, 0, -1, 1);
        checks.fails("start", Checks.STATE, x::start);
        checks.fails("measure behind a refused start", Checks.STATE, () -> x.measure(1, 1));
        x.set(C, 0, 0, 1, 1);
        x.start();
        checks.due("measure", 1, () -> x.measure(1, 1));
        x.begin(1);
        checks.fails("measure behind begin(1)", Checks.STATE, () -> x.measure(1, 1));
        x.begin(2);
        checks.fails("measure behind begin(2)", Checks.STATE, () -> x.measure(1, 1));
        x.start();
        checks.due("measure", 1, () -> x.measure(1, 1));
    }

    private static int common(int one, int other) {
        return other == 0 ? one : common(other, one % other);
    }

    /** "IllegalArgumentException if the fraction isn't as it must be". */
    private static void measureTakesFractionsAlone() {
        for (int a = -22; a <= 22; a++) {
            ExactFilter x = new ExactFilter();
            int above = a;
            for (int b = -2; b <= 22; b++) {
                int below = b;
                String call = "measure(" + a + ", " + b + ")";
                if (a < -20 || a > 20 || b < 1 || b > 20) {
                    checks.fails(call, Checks.ARGUMENT, () -> x.measure(above, below));
                    continue;
                }
                x.start();
                checks.due(call, 1, () -> x.measure(above, below));
                int divisor = common(Math.abs(a), b);
                checks.number(x, call + " surprise", Checks.surprise(), a / divisor, b / divisor);
            }
        }
        int[][] wrong = {{Integer.MIN_VALUE, 1}, {Integer.MAX_VALUE, 1}, {1, Integer.MIN_VALUE}, {1, Integer.MAX_VALUE}};
        ExactFilter x = new ExactFilter();
        x.start();
        for (int[] row : wrong) {
            checks.fails("measure(" + row[0] + ", " + row[1] + ")", Checks.ARGUMENT, () -> x.measure(row[0], row[1]));
        }
    }

    /** "r isn't fit"; "r is fit if it is not below 0". */
    private static void measureNeedsAFitR() {
        for (int size = 1; size <= 2; size++) {
            for (int[] row : DIAGONAL) {
                ExactFilter x = new ExactFilter();
                x.begin(size);
                x.start();
                x.set(6, 0, 0, row[0], row[1]);
                if (row[0] >= 0) {
                    checks.due("measure with r " + row[0] + "/" + row[1], 1, () -> x.measure(1, 1));
                } else {
                    checks.fails("measure with r " + row[0] + "/" + row[1], Checks.STATE, () -> x.measure(1, 1));
                }
            }
        }
    }

    private static void measureNeedsNothingElseToBeFit() {
        ExactFilter x = ofSizeTwo();
        x.start();
        x.set(C, 0, 0, -1, 1);
        x.set(Q, 0, 0, -1, 1);
        checks.due("measure with unfit c and q", 1, () -> x.measure(1, 1));
    }

    /** "ArithmeticException if s is 0": r is 0, and p is, or h is, or what h sees of p is. */
    private static void measureNeedsAVariance() {
        ExactFilter one = new ExactFilter();
        one.set(6, 0, 0, 0, 5);
        one.set(C, 0, 0, 0, 3);
        one.start();
        checks.fails("no p", Checks.ARITHMETIC, () -> one.measure(1, 1));
        one.set(C, 0, 0, 1, 1);
        one.start();
        one.set(5, 0, 0, 0, 1);
        checks.fails("no h", Checks.ARITHMETIC, () -> one.measure(1, 1));
        one.set(5, 0, 0, 1, 1);
        checks.due("p and h", 1, () -> one.measure(1, 1));
        checks.fails("no p is left", Checks.ARITHMETIC, () -> one.measure(1, 1));

        ExactFilter two = told(C, new int[] {4, 1}, new int[] {9, 1}, new int[] {6, 1});
        two.set(6, 0, 0, 0, 1);
        two.start();
        two.set(5, 0, 0, 1, 2);
        two.set(5, 1, 0, -1, 3);
        checks.fails("h does not see p", Checks.ARITHMETIC, () -> two.measure(1, 1));
        two.set(5, 1, 0, 1, 3);
        checks.due("h sees p", 1, () -> two.measure(1, 1));
        checks.number(two, "variance", Checks.variance(), 4, 1);
    }

    /** A variance above 0 is enough, by r or by p alone. */
    private static void measureTakesTheLeastVariance() {
        ExactFilter x = new ExactFilter();
        x.set(C, 0, 0, 0, 1);
        x.set(6, 0, 0, 1, 20);
        x.start();
        checks.due("r alone", 1, () -> x.measure(1, 1));
        checks.number(x, "variance", Checks.variance(), 1, 20);
        checks.number(x, "gain", Checks.gain(0), 0, 1);
        x.set(C, 0, 0, 1, 20);
        x.set(6, 0, 0, 0, 1);
        x.set(2, 0, 0, 1, 20);
        x.set(5, 0, 0, 1, 20);
        x.start();
        for (int step = 1; step <= 4; step++) {
            x.predict();
        }
        checks.due("p alone", 1, () -> x.measure(1, 1));
        checks.number(x, "variance", Checks.variance(), 1, 20L * 20 * 20 * 160000 * 160000);
        checks.number(x, "gain", Checks.gain(0), 20, 1);
        checks.number(x, "mean", Checks.mean(0), 20, 1);
    }

    /** "There are at most four predictions and three measurements from one start to the next". */
    private static void stepsComeInAnyOrder() {
        String[] orders = {"ppppmmm", "mmmpppp", "pmpmpmp", "mppmppm", "pppmmmp"};
        ExactFilter x = new ExactFilter();
        for (String order : orders) {
            x.start();
            int predictions = 0;
            int measurements = 0;
            for (char step : order.toCharArray()) {
                if (step == 'p') {
                    predictions++;
                    checks.due(order + ": predict", predictions, x::predict);
                } else {
                    measurements++;
                    checks.due(order + ": measure", measurements, () -> x.measure(1, 1));
                }
            }
            checks.fails(order + ": predict", Checks.STATE, x::predict);
            checks.fails(order + ": measure", Checks.STATE, () -> x.measure(1, 1));
        }
    }

    private static void aRefusedMeasurementIsNotTheLatest() {
        ExactFilter x = new ExactFilter();
        x.set(6, 0, 0, 0, 1);
        x.start();
        x.measure(5, 3);
        checks.fails("s is 0", Checks.ARITHMETIC, () -> x.measure(7, 1));
        checks.number(x, "surprise behind s 0", Checks.surprise(), 5, 3);
        x.set(6, 0, 0, -1, 1);
        checks.fails("r is unfit", Checks.STATE, () -> x.measure(7, 1));
        checks.number(x, "variance behind unfit r", Checks.variance(), 1, 1);
        checks.fails("no fraction", Checks.ARGUMENT, () -> x.measure(7, 0));
        checks.number(x, "gain behind no fraction", Checks.gain(0), 1, 1);
        x.set(6, 0, 0, 1, 1);
        checks.due("measure", 2, () -> x.measure(7, 1));
        checks.number(x, "surprise of the next one", Checks.surprise(), 16, 3);
    }
}
