/** Promises 4 (start), 5 (predict) and 6 (measure), and that a call that throws changes nothing. */
public final class StepsTest {
    private static final Checks checks = new Checks();

    public static void main(String[] args) {
        startSetsMeanAndCovariance();
        startForgetsStepsAndMeasurement();
        startRefusesUnfitCovariances();
        startIsRefusedTheTwentyFifthTime();
        predictFollowsTheFormula();
        predictRefusals();
        measureFollowsTheFormula();
        measureOfSizeTwo();
        measureRefusals();
        measureWithoutVariance();
        checks.end();
    }

    private static void startSetsMeanAndCovariance() {
        ExactFilter x = new ExactFilter();
        x.begin(2);
        x.set(0, 0, 0, -6, 4);
        x.set(1, 0, 0, 4, 3);
        x.set(1, 1, 1, 3, 4);
        x.set(1, 0, 1, -1, 1);
        checks.works("start", x::start);
        checks.due("started", 1, () -> x.about(1));
        checks.number(x, "mean 0", Checks.mean(0), -3, 2);
        checks.number(x, "mean 1", Checks.mean(1), 0, 1);
        checks.number(x, "covariance 00", Checks.covariance(0, 0), 4, 3);
        checks.number(x, "covariance 01", Checks.covariance(0, 1), -1, 1);
        checks.number(x, "covariance 11", Checks.covariance(1, 1), 3, 4);
    }

    private static void startForgetsStepsAndMeasurement() {
        ExactFilter x = new ExactFilter();
        x.set(3, 0, 0, 1, 1);
        x.start();
        x.predict();
        x.measure(1, 1);
        x.start();
        checks.due("predictions", 0, () -> x.about(2));
        checks.due("measurements", 0, () -> x.about(3));
        checks.number(x, "mean", Checks.mean(0), 0, 1);
        for (int what = 2; what <= 4; what++) {
            int asked = what;
            checks.fails("sign(" + what + ", 0, 0)", Checks.STATE, () -> x.sign(asked, 0, 0));
        }
        checks.due("predict", 1, x::predict);
        checks.due("measure", 1, () -> x.measure(1, 1));
    }

    private static void startRefusesUnfitCovariances() {
        ExactFilter one = new ExactFilter();
        one.set(1, 0, 0, -1, 20);
        checks.fails("start with c below 0", Checks.STATE, one::start);
        checks.due("not started", 0, () -> one.about(1));
        one.set(1, 0, 0, 0, 1);
        checks.works("start with c 0", one::start);

        int[][] unfit = {{-1, 1, 1, 1, 0, 1}, {1, 1, -1, 20, 0, 1}, {-1, 1, -1, 1, 0, 1}, {1, 1, 1, 1, 20, 19},
            {4, 3, 14, 19, 1, 1}, {0, 1, 1, 1, 1, 20}, {0, 1, 0, 1, -1, 20}, {1, 20, 20, 1, -20, 19},
            {0, 1, -1, 20, 0, 1}, {-1, 20, 0, 1, 0, 1}};
        for (int[] row : unfit) {
            ExactFilter x = covariance(row, 1);
            checks.fails("start with unfit c", Checks.STATE, x::start);
        }
        int[][] fit = {{1, 1, 1, 1, 1, 1}, {1, 1, 1, 1, -1, 1}, {4, 3, 3, 4, 1, 1}, {0, 1, 0, 1, 0, 1},
            {0, 1, 1, 1, 0, 1}, {20, 1, 20, 1, 20, 1}, {1, 20, 1, 20, 1, 20}, {1, 20, 20, 1, -20, 20}};
        for (int[] row : fit) {
            ExactFilter x = covariance(row, 1);
            checks.works("start with fit c", x::start);
        }
        ExactFilter x = new ExactFilter();
        x.set(0, 0, 0, 3, 1);
        x.start();
        x.predict();
        x.set(1, 0, 0, -1, 1);
        x.set(0, 0, 0, 4, 1);
        checks.fails("start again with unfit c", Checks.STATE, x::start);
        checks.due("still started", 1, () -> x.about(1));
        checks.due("predictions stay", 1, () -> x.about(2));
        checks.number(x, "the mean stays", Checks.mean(0), 3, 1);
    }

    /** Both numbers of the diagonal, then the one beside them, as a fraction each. */
    private static ExactFilter covariance(int[] row, int part) {
        ExactFilter x = new ExactFilter();
        x.begin(2);
        x.set(part, 0, 0, row[0], row[1]);
        x.set(part, 1, 1, row[2], row[3]);
        x.set(part, 0, 1, row[4], row[5]);
        return x;
    }

    private static void startIsRefusedTheTwentyFifthTime() {
        ExactFilter x = new ExactFilter();
        for (int start = 1; start <= 24; start++) {
            if (start % 5 == 0) {
                x.begin(1 + start % 2);
            }
            x.set(1, 0, 0, -1, 1);
            checks.fails("an unfit start does not count", Checks.STATE, x::start);
            x.set(1, 0, 0, 1, 1);
            checks.works("start " + start, x::start);
        }
        x.predict();
        checks.fails("start 25", Checks.STATE, x::start);
        checks.due("started behind start 25", 1, () -> x.about(1));
        checks.due("predictions behind start 25", 1, () -> x.about(2));
        x.begin(1);
        checks.fails("start 25 behind begin", Checks.STATE, x::start);
        checks.due("not started behind begin", 0, () -> x.about(1));
    }

    private static void predictFollowsTheFormula() {
        ExactFilter x = new ExactFilter();
        x.set(0, 0, 0, 2, 3);
        x.set(2, 0, 0, -3, 4);
        x.set(3, 0, 0, 1, 5);
        x.set(4, 0, 0, 1, 7);
        x.start();
        checks.due("predict", 1, x::predict);
        checks.number(x, "mean", Checks.mean(0), -3, 10);
        checks.number(x, "covariance", Checks.covariance(0, 0), 79, 112);
        checks.due("predict", 2, x::predict);
        checks.number(x, "mean", Checks.mean(0), 17, 40);
        checks.number(x, "covariance", Checks.covariance(0, 0), 967, 1792);
        checks.due("predict", 3, x::predict);
        checks.due("predict", 4, x::predict);
        checks.due("about(2)", 4, () -> x.about(2));
    }

    private static void predictRefusals() {
        ExactFilter x = new ExactFilter();
        checks.fails("predict before start", Checks.STATE, x::predict);
        x.start();
        x.set(4, 0, 0, -1, 20);
        x.set(3, 0, 0, 1, 1);
        checks.fails("predict with unfit q", Checks.STATE, x::predict);
        checks.due("no prediction", 0, () -> x.about(2));
        checks.number(x, "the mean stays", Checks.mean(0), 0, 1);
        x.set(4, 0, 0, 0, 1);
        for (int times = 1; times <= 4; times++) {
            checks.due("predict", times, x::predict);
        }
        checks.fails("predict the fifth time", Checks.STATE, x::predict);
        checks.due("four predictions", 4, () -> x.about(2));
        checks.number(x, "the mean stays", Checks.mean(0), 4, 1);
        checks.due("measure behind four predictions", 1, () -> x.measure(1, 1));

        int[][] unfit = {{-1, 1, 1, 1, 0, 1}, {1, 1, -1, 1, 0, 1}, {1, 1, 1, 1, -20, 19}, {0, 1, 0, 1, 1, 20},
            {0, 1, -1, 20, 0, 1}, {-1, 20, 0, 1, 0, 1}};
        for (int[] row : unfit) {
            ExactFilter two = covariance(row, 4);
            two.start();
            checks.fails("predict with unfit q of size two", Checks.STATE, two::predict);
        }
        int[][] fit = {{1, 1, 1, 1, 1, 1}, {2, 3, 3, 2, -1, 1}, {0, 1, 0, 1, 0, 1}};
        for (int[] row : fit) {
            ExactFilter two = covariance(row, 4);
            two.start();
            checks.due("predict with fit q of size two", 1, two::predict);
        }
    }

    private static void measureFollowsTheFormula() {
        ExactFilter x = new ExactFilter();
        x.set(5, 0, 0, -2, 3);
        x.set(6, 0, 0, 1, 5);
        x.set(0, 0, 0, 1, 2);
        x.start();
        checks.due("measure", 1, () -> x.measure(6, 8));
        checks.number(x, "surprise", Checks.surprise(), 13, 12);
        checks.number(x, "variance", Checks.variance(), 29, 45);
        checks.number(x, "gain", Checks.gain(0), -30, 29);
        checks.number(x, "mean", Checks.mean(0), -18, 29);
        checks.number(x, "covariance", Checks.covariance(0, 0), 9, 29);
        checks.due("measure", 2, () -> x.measure(0, 1));
        checks.number(x, "surprise again", Checks.surprise(), -12, 29);
        checks.number(x, "variance again", Checks.variance(), 49, 145);
        checks.number(x, "gain again", Checks.gain(0), -30, 49);
        checks.number(x, "mean again", Checks.mean(0), -18, 49);
        checks.number(x, "covariance again", Checks.covariance(0, 0), 9, 49);
    }

    private static void measureOfSizeTwo() {
        ExactFilter x = new ExactFilter();
        x.begin(2);
        int[][] told = {{0, 0, 0, 1, 2}, {0, 1, 0, 1, 3}, {1, 0, 0, 2, 1}, {1, 1, 1, 3, 1}, {1, 0, 1, -1, 1},
            {5, 0, 0, 2, 1}, {5, 1, 0, 1, 3}, {6, 0, 0, 1, 2}};
        for (int[] row : told) {
            x.set(row[0], row[1], row[2], row[3], row[4]);
        }
        x.start();
        checks.due("measure", 1, () -> x.measure(-4, 1));
        checks.number(x, "surprise", Checks.surprise(), -46, 9);
        checks.number(x, "variance", Checks.variance(), 15, 2);
        checks.number(x, "gain 0", Checks.gain(0), 22, 45);
        checks.number(x, "gain 1", Checks.gain(1), -2, 15);
        checks.number(x, "mean 0", Checks.mean(0), -1619, 810);
        checks.number(x, "mean 1", Checks.mean(1), 137, 135);
        checks.number(x, "covariance 00", Checks.covariance(0, 0), 28, 135);
        checks.number(x, "covariance 01", Checks.covariance(0, 1), -23, 45);
        checks.number(x, "covariance 10", Checks.covariance(1, 0), -23, 45);
        checks.number(x, "covariance 11", Checks.covariance(1, 1), 43, 15);
    }

    private static void measureRefusals() {
        ExactFilter x = new ExactFilter();
        checks.fails("measure before start", Checks.STATE, () -> x.measure(1, 1));
        checks.fails("no fraction before start", Checks.ARGUMENT, () -> x.measure(1, 0));
        x.start();
        int[][] wrong = {{21, 1}, {-21, 1}, {1, 0}, {1, -1}, {1, 21}, {Integer.MIN_VALUE, 1}, {1, Integer.MIN_VALUE},
            {Integer.MAX_VALUE, 1}, {1, Integer.MAX_VALUE}};
        for (int[] row : wrong) {
            checks.fails("measure " + row[0] + "/" + row[1], Checks.ARGUMENT, () -> x.measure(row[0], row[1]));
        }
        x.set(6, 0, 0, -1, 20);
        checks.fails("measure with unfit r", Checks.STATE, () -> x.measure(1, 1));
        checks.fails("no fraction with unfit r", Checks.ARGUMENT, () -> x.measure(21, 1));
        checks.due("no measurement", 0, () -> x.about(3));
        checks.fails("no surprise", Checks.STATE, () -> x.sign(2, 0, 0));
        x.set(6, 0, 0, 1, 1);
        int[][] right = {{20, 20}, {-20, 1}, {20, 1}};
        for (int times = 1; times <= 3; times++) {
            int[] row = right[times - 1];
            checks.due("measure", times, () -> x.measure(row[0], row[1]));
        }
        checks.fails("measure the fourth time", Checks.STATE, () -> x.measure(1, 1));
        checks.fails("no fraction the fourth time", Checks.ARGUMENT, () -> x.measure(1, 21));
        checks.due("three measurements", 3, () -> x.about(3));
        checks.number(x, "the mean stays", Checks.mean(0), 1, 4);
        checks.number(x, "the surprise stays", Checks.surprise(), 79, 3);
        checks.due("predict behind three measurements", 1, x::predict);
    }

    private static void measureWithoutVariance() {
        ExactFilter x = new ExactFilter();
        x.set(6, 0, 0, 0, 1);
        x.start();
        checks.due("measure with r 0", 1, () -> x.measure(5, 3));
        checks.number(x, "the mean is measured", Checks.mean(0), 5, 3);
        checks.number(x, "no covariance is left", Checks.covariance(0, 0), 0, 1);
        checks.fails("measure with s 0", Checks.ARITHMETIC, () -> x.measure(7, 3));
        checks.fails("no fraction with s 0", Checks.ARGUMENT, () -> x.measure(7, 0));
        checks.due("one measurement", 1, () -> x.about(3));
        checks.number(x, "the mean stays", Checks.mean(0), 5, 3);
        checks.number(x, "the surprise stays", Checks.surprise(), 5, 3);
        checks.number(x, "the variance stays", Checks.variance(), 1, 1);
        checks.number(x, "the gain stays", Checks.gain(0), 1, 1);
        x.set(6, 0, 0, -1, 1);
        checks.fails("unfit r comes before s", Checks.STATE, () -> x.measure(7, 3));

        ExactFilter two = new ExactFilter();
        two.begin(2);
        two.set(1, 0, 1, 1, 1);
        two.set(5, 1, 0, -1, 1);
        two.set(6, 0, 0, 0, 1);
        two.start();
        checks.fails("h p h' is 0", Checks.ARITHMETIC, () -> two.measure(1, 1));
        checks.fails("no surprise behind it", Checks.STATE, () -> two.sign(2, 0, 0));
        two.set(5, 1, 0, 1, 1);
        checks.due("h p h' is 4", 1, () -> two.measure(1, 1));
        checks.number(two, "variance", Checks.variance(), 4, 1);
    }
}
