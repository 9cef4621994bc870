/**
 * The boundary cases of promises 7 (sign), 8 (pieces), 9 (piece), 10 (scaled) and 11 (compare): a test for each
 * sentence that names one. That refused calls change nothing is in RefusedCallsTest.
 */
public final class AnswerBoundariesTest {
    private static final Checks checks = new Checks();
    private static final int LEAST = Integer.MIN_VALUE;
    private static final int MOST = Integer.MAX_VALUE;
    private static final long LIMIT = 1000000000000000000L;

    public static void main(String[] args) {
        signOfEachNumber();
        numbersOfSizeOne();
        numbersOfSizeTwo();
        questionsNeedAStart();
        questionsOfAMeasurementNeedOne();
        questionsAreForTheLatestMeasurement();
        piecesHaveTwoSidesAlone();
        piecesOfNothing();
        piecesAreWithoutTheSign();
        piecesBeginAtSixteenBits();
        piecesHaveNothingAboveTheHighest();
        piecesAreOfLowestTerms();
        pieceIsNothingBeyondTheHighest();
        pieceIsRefusedBelowNothing();
        pieceOfSixteenOnes();
        scaledHasItsFactorsAlone();
        scaledGoesDown();
        scaledOfWholeNumbersStays();
        scaledIsExactToItsLimit();
        scaledEndsBeyondItsLimit();
        compareHasItsFractionsAlone();
        compareIsLikeForEveryFormOfAFraction();
        compareTellsNearNumbersApart();
        checks.end();
    }

    private static ExactFilter withMean(int above, int below) {
        ExactFilter x = new ExactFilter();
        x.set(0, 0, 0, above, below);
        x.start();
        return x;
    }

    private static ExactFilter measured(int size) {
        ExactFilter x = new ExactFilter();
        x.begin(size);
        x.start();
        x.measure(1, 1);
        return x;
    }

    /** "-1, 0, 1 as it is below, like, above 0". */
    private static void signOfEachNumber() {
        for (int sign = -1; sign <= 1; sign++) {
            ExactFilter x = new ExactFilter();
            x.begin(2);
            x.set(0, 0, 0, sign, 20);
            x.set(1, 0, 1, sign, 20);
            x.set(5, 0, 0, 0, 1);
            x.start();
            String name = "sign " + sign + " of ";
            checks.due(name + "the mean", sign, () -> x.sign(0, 0, 0));
            checks.due(name + "the covariance", sign, () -> x.sign(1, 0, 1));
            checks.due(name + "the covariance across", sign, () -> x.sign(1, 1, 0));
            x.measure(sign, 20);
            checks.due(name + "the surprise", sign, () -> x.sign(2, 0, 0));
            checks.due("its variance", 1, () -> x.sign(3, 0, 0));
            checks.due(name + "gain 0", sign, () -> x.sign(4, 0, 0));
            checks.due("gain 1", 1, () -> x.sign(4, 1, 0));
            checks.due(name + "mean 1", sign, () -> x.sign(0, 1, 0));
        }
    }

    private static void allFail(ExactFilter x, String name, String exception, int what, int i, int j) {
        String place = name + " (" + what + ", " + i + ", " + j + ")";
        checks.fails(place + " sign", exception, () -> x.sign(what, i, j));
        checks.fails(place + " pieces", exception, () -> x.pieces(what, i, j, 0));
        checks.fails(place + " piece", exception, () -> x.piece(what, i, j, 1, 0));
        checks.fails(place + " scaled", exception, () -> x.scaled(what, i, j, 1));
        checks.fails(place + " compare", exception, () -> x.compare(what, i, j, 1, 1));
    }

    private static void allWork(ExactFilter x, String name, int what, int i, int j) {
        String place = name + " (" + what + ", " + i + ", " + j + ")";
        checks.works(place + " sign", () -> x.sign(what, i, j));
        checks.works(place + " pieces", () -> x.pieces(what, i, j, 0));
        checks.works(place + " piece", () -> x.piece(what, i, j, 1, 0));
        checks.works(place + " scaled", () -> x.scaled(what, i, j, 1));
        checks.works(place + " compare", () -> x.compare(what, i, j, 1, 1));
    }

    /** "IllegalArgumentException if there is no such number": of size one each has number 0, 0 alone. */
    private static void numbersOfSizeOne() {
        for (int what = -2; what <= 6; what++) {
            ExactFilter x = measured(1);
            for (int i = -1; i <= 2; i++) {
                for (int j = -1; j <= 2; j++) {
                    if (what >= 0 && what <= 4 && i == 0 && j == 0) {
                        allWork(x, "size 1", what, i, j);
                    } else {
                        allFail(x, "size 1", Checks.ARGUMENT, what, i, j);
                    }
                }
            }
            farPlaces(x, what);
        }
    }

    /** "0 the mean i, 1 the covariance i, j, ... 4 the gain i (j, and for 2 and 3 i, are 0 ...)". */
    private static void numbersOfSizeTwo() {
        int[] rows = {2, 2, 1, 1, 2};
        int[] places = {1, 2, 1, 1, 1};
        for (int what = -2; what <= 6; what++) {
            ExactFilter x = measured(2);
            for (int i = -2; i <= 3; i++) {
                for (int j = -2; j <= 3; j++) {
                    boolean there = what >= 0 && what <= 4 && i >= 0 && i < rows[what] && j >= 0 && j < places[what];
                    if (there) {
                        allWork(x, "size 2", what, i, j);
                    } else {
                        allFail(x, "size 2", Checks.ARGUMENT, what, i, j);
                    }
                }
            }
            farPlaces(x, what);
        }
    }

    private static void farPlaces(ExactFilter x, int what) {
        int[] far = {LEAST, MOST, 65536};
        for (int value : far) {
            allFail(x, "far", Checks.ARGUMENT, what, value, 0);
            allFail(x, "far", Checks.ARGUMENT, what, 0, value);
            allFail(x, "far", Checks.ARGUMENT, value, 0, 0);
        }
    }

    /** "IllegalStateException if it hasn't started". */
    private static void questionsNeedAStart() {
        ExactFilter x = new ExactFilter();
        for (int what = 0; what <= 4; what++) {
            allFail(x, "at first", Checks.STATE, what, 0, 0);
        }
        x.set(1, 0, 0, -1, 1);
        checks.fails("start", Checks.STATE, x::start);
        allFail(x, "behind a refused start", Checks.STATE, 0, 0, 0);
        ExactFilter y = measured(2);
        y.begin(2);
        for (int what = 0; what <= 4; what++) {
            allFail(y, "behind begin", Checks.STATE, what, 0, 0);
        }
    }

    /** "or for 2 to 4 if there was no measurement": neither the mean nor the covariance needs one. */
    private static void questionsOfAMeasurementNeedOne() {
        for (int size = 1; size <= 2; size++) {
            ExactFilter x = new ExactFilter();
            x.begin(size);
            x.start();
            x.predict();
            allWork(x, "without a measurement", 0, 0, 0);
            allWork(x, "without a measurement", 1, 0, 0);
            for (int what = 2; what <= 4; what++) {
                allFail(x, "without a measurement", Checks.STATE, what, 0, 0);
            }
            allFail(x, "without a measurement", Checks.ARGUMENT, 5, 0, 0);
            allFail(x, "without a measurement", Checks.ARGUMENT, -1, 0, 0);
            x.measure(1, 1);
            for (int what = 0; what <= 4; what++) {
                allWork(x, "with a measurement", what, 0, 0);
            }
            x.start();
            for (int what = 2; what <= 4; what++) {
                allFail(x, "started again", Checks.STATE, what, 0, 0);
            }
        }
    }

    /** "2 to 4 of the latest measurement since the start". */
    private static void questionsAreForTheLatestMeasurement() {
        ExactFilter x = new ExactFilter();
        x.start();
        x.measure(2, 1);
        int[] first = {2, 1, 2, 1, 1, 2};
        latest(x, "the first one", first);
        x.predict();
        latest(x, "a prediction is none", first);
        x.set(2, 0, 0, 2, 1);
        x.predict();
        latest(x, "nor is another one", first);
        x.measure(-1, 1);
        latest(x, "the second one", -3, 1, 3, 1, 2, 3);
        x.measure(20, 1);
        latest(x, "the third one", 20, 1, 5, 3, 2, 5);
        checks.fails("measure", Checks.STATE, () -> x.measure(1, 1));
        latest(x, "still the third one", 20, 1, 5, 3, 2, 5);
    }

    /** Surprise, variance and gain, as a fraction each. */
    private static void latest(ExactFilter x, String name, int... due) {
        checks.number(x, name + ": surprise", Checks.surprise(), due[0], due[1]);
        checks.number(x, name + ": variance", Checks.variance(), due[2], due[3]);
        checks.number(x, name + ": gain", Checks.gain(0), due[4], due[5]);
    }

    /** "above (side 0) or below (1)"; "IllegalArgumentException for another side". */
    private static void piecesHaveTwoSidesAlone() {
        ExactFilter x = withMean(3, 7);
        checks.due("above", 3, () -> x.piece(0, 0, 0, 0, 0));
        checks.due("below", 7, () -> x.piece(0, 0, 0, 1, 0));
        int[] others = {-1, -2, 2, 3, 65536, 65537, LEAST, MOST};
        for (int side : others) {
            checks.fails("pieces of side " + side, Checks.ARGUMENT, () -> x.pieces(0, 0, 0, side));
            checks.fails("piece of side " + side, Checks.ARGUMENT, () -> x.piece(0, 0, 0, side, 0));
        }
    }

    /** "(0 has none)"; below it stands 1, which has one. */
    private static void piecesOfNothing() {
        ExactFilter x = withMean(0, 20);
        checks.due("pieces above", 0, () -> x.pieces(0, 0, 0, 0));
        checks.due("pieces below", 1, () -> x.pieces(0, 0, 0, 1));
        checks.due("piece 0 above", 0, () -> x.piece(0, 0, 0, 0, 0));
        checks.due("piece 0 below", 1, () -> x.piece(0, 0, 0, 1, 0));
        checks.due("piece 1 below", 0, () -> x.piece(0, 0, 0, 1, 1));
    }

    /** "without its sign". */
    private static void piecesAreWithoutTheSign() {
        for (int above = 1; above <= 20; above++) {
            ExactFilter x = withMean(above, 1);
            ExactFilter y = withMean(-above, 1);
            int due = above;
            checks.due("piece of " + above, due, () -> x.piece(0, 0, 0, 0, 0));
            checks.due("piece of -" + above, due, () -> y.piece(0, 0, 0, 0, 0));
            checks.due("pieces of -" + above, 1, () -> y.pieces(0, 0, 0, 0));
        }
    }

    /**
     * After four predictions the covariance has 16 to the eighth, 2 to the 32nd, at each place, and beside the
     * diagonal the last q makes it less or more by one.
     */
    private static ExactFilter powers(int diagonal, int beside) {
        ExactFilter x = new ExactFilter();
        x.begin(2);
        for (int i = 0; i < 2; i++) {
            x.set(0, i, 0, 1 - 2 * i, 1);
            x.set(1, i, 1, 1, 1);
            x.set(2, i, i, 16, 1);
        }
        x.set(1, 0, 0, 1, 1);
        x.start();
        x.predict();
        x.predict();
        x.predict();
        x.set(4, 0, 0, diagonal, 1);
        x.set(4, 1, 1, diagonal, 1);
        x.set(4, 0, 1, beside, 1);
        x.set(3, 0, 0, -1, 1);
        x.set(3, 1, 0, 1, 1);
        x.predict();
        return x;
    }

    /** "PIECES of sixteen bits": 65535 is one, 65536 are two; two to the 32nd are three, one less are two. */
    private static void piecesBeginAtSixteenBits() {
        ExactFilter x = powers(1, -1);
        checks.number(x, "2^16 - 1", Checks.mean(0), 65535, 1);
        checks.number(x, "1 - 2^16", Checks.mean(1), -65535, 1);
        checks.number(x, "2^32 + 1", Checks.covariance(0, 0), (1L << 32) + 1, 1);
        checks.number(x, "2^32 - 1", Checks.covariance(0, 1), (1L << 32) - 1, 1);
        ExactFilter y = powers(0, 0);
        checks.number(y, "2^32", Checks.covariance(1, 0), 1L << 32, 1);
        y.set(3, 0, 0, 0, 1);
        y.start();
        y.predict();
        y.predict();
        checks.number(y, "2^16", Checks.covariance(0, 0), 65536, 1);
        ExactFilter z = new ExactFilter();
        z.set(1, 0, 0, 1, 2);
        z.set(2, 0, 0, 1, 16);
        z.set(0, 0, 0, 1, 1);
        z.start();
        z.predict();
        z.predict();
        z.predict();
        checks.number(z, "1 by 2^25", Checks.covariance(0, 0), 1, 1L << 25);
        z.predict();
        checks.number(z, "1 by 2^16", Checks.mean(0), 1, 65536);
        checks.number(z, "1 by 2^33", Checks.covariance(0, 0), 1, 1L << 33);
    }

    /** "the highest one not 0": in the pieces of every number, however long. */
    private static void piecesHaveNothingAboveTheHighest() {
        ExactFilter x = longNumbers();
        int[][] numbers = {{0, 0, 0}, {0, 1, 0}, {1, 0, 0}, {1, 0, 1}, {1, 1, 1}, {2, 0, 0}, {3, 0, 0}, {4, 0, 0}};
        int longest = 0;
        for (int[] row : numbers) {
            for (int side = 0; side <= 1; side++) {
                int asked = side;
                int pieces = x.pieces(row[0], row[1], row[2], side);
                longest = Math.max(longest, pieces);
                String name = "(" + row[0] + ", " + row[1] + ", " + row[2] + ") side " + side;
                checks.same(name + " has a highest piece", "true",
                        Boolean.toString(x.piece(row[0], row[1], row[2], side, pieces - 1) > 0));
                for (int k = pieces; k <= pieces + 5; k++) {
                    int beyond = k;
                    checks.due(name + " piece " + k, 0, () -> x.piece(row[0], row[1], row[2], asked, beyond));
                }
            }
        }
        checks.same("the numbers are long", "true", Boolean.toString(longest >= 8));
    }

    private static ExactFilter longNumbers() {
        ExactFilter x = new ExactFilter();
        x.begin(2);
        int[][] told = {
            {0, 0, 0, 20, 19}, {0, 1, 0, 7, 18}, {1, 0, 0, 20, 19}, {1, 1, 1, 20, 17}, {1, 0, 1, 3, 13},
            {2, 0, 0, 20, 19}, {2, 0, 1, 19, 17}, {2, 1, 0, 17, 13}, {2, 1, 1, 19, 20}, {3, 0, 0, 19, 17},
            {4, 0, 0, 20, 19}, {4, 1, 1, 20, 17}, {5, 0, 0, 18, 13}, {5, 1, 0, 20, 17}, {6, 0, 0, 19, 16},
        };
        for (int[] row : told) {
            x.set(row[0], row[1], row[2], row[3], row[4]);
        }
        x.start();
        for (int step = 0; step < 3; step++) {
            x.predict();
            x.measure(19, 17 - step);
        }
        x.predict();
        return x;
    }

    /** "without common divisors". */
    private static void piecesAreOfLowestTerms() {
        int[][] due = {{20, 20, 1, 1}, {-18, 12, -3, 2}, {16, 20, 4, 5}, {-17, 19, -17, 19}, {0, 13, 0, 1}};
        for (int[] row : due) {
            checks.number(withMean(row[0], row[1]), row[0] + "/" + row[1], Checks.mean(0), row[2], row[3]);
        }
        ExactFilter x = new ExactFilter();
        x.set(2, 0, 0, 19, 20);
        x.set(0, 0, 0, 20, 19);
        x.start();
        x.predict();
        checks.number(x, "20/19 times 19/20", Checks.mean(0), 1, 1);
        checks.number(x, "19/20 squared", Checks.covariance(0, 0), 361, 400);
    }

    /** "0 beyond the highest one". */
    private static void pieceIsNothingBeyondTheHighest() {
        ExactFilter x = powers(0, 0);
        checks.due("pieces", 3, () -> x.pieces(1, 0, 0, 0));
        checks.due("the highest piece", 1, () -> x.piece(1, 0, 0, 0, 2));
        int[] beyond = {3, 4, 5, 16, 65536, 65538, 1 << 28, 1 << 29, 1 << 30, MOST - 1, MOST};
        for (int k : beyond) {
            checks.due("piece " + k + " above", 0, () -> x.piece(1, 0, 0, 0, k));
            checks.due("piece " + k + " below", 0, () -> x.piece(1, 0, 0, 1, k));
        }
    }

    /** "IllegalArgumentException if k is below 0". */
    private static void pieceIsRefusedBelowNothing() {
        ExactFilter x = powers(0, 0);
        checks.due("piece 0", 0, () -> x.piece(1, 0, 0, 0, 0));
        int[] wrong = {-1, -2, -65536, LEAST + 1, LEAST};
        for (int k : wrong) {
            checks.fails("piece " + k + " above", Checks.ARGUMENT, () -> x.piece(1, 0, 0, 0, k));
            checks.fails("piece " + k + " below", Checks.ARGUMENT, () -> x.piece(1, 0, 0, 1, k));
            checks.fails("piece " + k + " of 0", Checks.ARGUMENT, () -> withMean(0, 1).piece(0, 0, 0, 0, k));
        }
    }

    /** Sixteen bits are 0 .. 65535: the highest of them is no sign. */
    private static void pieceOfSixteenOnes() {
        ExactFilter x = powers(1, -1);
        checks.due("lower piece of 2^32 - 1", 65535, () -> x.piece(1, 0, 1, 0, 0));
        checks.due("upper piece of 2^32 - 1", 65535, () -> x.piece(1, 0, 1, 0, 1));
        checks.due("piece of 1 - 2^16", 65535, () -> x.piece(0, 1, 0, 0, 0));
    }

    /** "a factor (1 .. 1000000)"; "IllegalArgumentException for another factor". */
    private static void scaledHasItsFactorsAlone() {
        ExactFilter x = withMean(-1, 20);
        checks.due("factor 1", -1, () -> x.scaled(0, 0, 0, 1));
        checks.due("factor 2", -1, () -> x.scaled(0, 0, 0, 2));
        checks.due("factor 999999", -50000, () -> x.scaled(0, 0, 0, 999999));
        checks.due("factor 1000000", -50000, () -> x.scaled(0, 0, 0, 1000000));
        int[] wrong = {0, -1, -1000000, 1000001, 1000002, LEAST, MOST};
        for (int factor : wrong) {
            checks.fails("factor " + factor, Checks.ARGUMENT, () -> x.scaled(0, 0, 0, factor));
        }
    }

    /** "down": towards what is less, below 0 too. */
    private static void scaledGoesDown() {
        for (int above = -20; above <= 20; above++) {
            for (int below = 1; below <= 20; below++) {
                ExactFilter x = withMean(above, below);
                int[] factors = {1, 7, 1000000};
                for (int factor : factors) {
                    long due = Math.floorDiv((long) above * factor, (long) below);
                    checks.due(above + "/" + below + " by " + factor, due, () -> x.scaled(0, 0, 0, factor));
                }
            }
        }
        ExactFilter x = new ExactFilter();
        x.set(2, 0, 0, 1, 20);
        x.set(0, 0, 0, -1, 20);
        x.start();
        x.predict();
        x.predict();
        x.predict();
        x.predict();
        checks.due("just below 0 goes to -1", -1, () -> x.scaled(0, 0, 0, 1));
        checks.due("just above 0 goes to 0", 0, () -> x.scaled(1, 0, 0, 1000000));
    }

    private static void scaledOfWholeNumbersStays() {
        checks.due("-20", -20, () -> withMean(-20, 1).scaled(0, 0, 0, 1));
        checks.due("-1/3 by 3", -1, () -> withMean(-1, 3).scaled(0, 0, 0, 3));
        checks.due("-7/20 by 1000000", -350000, () -> withMean(-7, 20).scaled(0, 0, 0, 1000000));
        checks.due("0", 0, () -> withMean(0, 7).scaled(0, 0, 0, 1000000));
    }

    /**
     * After four predictions all of the covariance is 4 times the square of 25, 20, 40 and 25, 1 and twelve zeros;
     * the one beside the diagonal has the sign, and the last q is added.
     */
    private static ExactFilter nearTheLimit(int sign, int besideAbove) {
        ExactFilter x = new ExactFilter();
        x.begin(2);
        x.set(1, 0, 0, 4, 1);
        x.set(1, 0, 1, 4, 1);
        x.set(1, 1, 1, 4, 1);
        x.start();
        int[][] rows = {{20, 5}, {10, 10}, {20, 20}, {5, 20}};
        for (int step = 0; step < 4; step++) {
            int lower = step == 3 ? sign : 1;
            x.set(2, 0, 0, rows[step][0], 1);
            x.set(2, 0, 1, rows[step][1], 1);
            x.set(2, 1, 0, lower * rows[step][0], 1);
            x.set(2, 1, 1, lower * rows[step][1], 1);
            if (step == 3) {
                x.set(4, 0, 0, 1, 1);
                x.set(4, 1, 1, 1, 1);
                x.set(4, 0, 1, besideAbove, 20);
            }
            x.predict();
        }
        return x;
    }

    /** "1 and 18 zeros, or that below 0, if it would be beyond": what is not beyond is exact. */
    private static void scaledIsExactToItsLimit() {
        ExactFilter like = nearTheLimit(1, 0);
        checks.due("like the limit", LIMIT, () -> like.scaled(1, 0, 1, 1000000));
        checks.due("one step of the factor less", LIMIT - 1000000000000L, () -> like.scaled(1, 0, 1, 999999));
        ExactFilter less = nearTheLimit(1, -1);
        checks.due("just within", LIMIT - 50000, () -> less.scaled(1, 0, 1, 1000000));
        checks.due("just within, by 1", 999999999999L, () -> less.scaled(1, 0, 1, 1));
        ExactFilter likeBelow = nearTheLimit(-1, 0);
        checks.due("like the limit below 0", -LIMIT, () -> likeBelow.scaled(1, 0, 1, 1000000));
        ExactFilter lessBelow = nearTheLimit(-1, 1);
        checks.due("just within below 0", 50000 - LIMIT, () -> lessBelow.scaled(1, 0, 1, 1000000));
        checks.due("just within below 0, by 1", -1000000000000L, () -> lessBelow.scaled(1, 0, 1, 1));
    }

    private static void scaledEndsBeyondItsLimit() {
        ExactFilter more = nearTheLimit(1, 1);
        checks.due("just beyond", LIMIT, () -> more.scaled(1, 0, 1, 1000000));
        checks.due("the diagonal beyond", LIMIT, () -> more.scaled(1, 0, 0, 1000000));
        ExactFilter moreBelow = nearTheLimit(-1, -1);
        checks.due("just beyond below 0", -LIMIT, () -> moreBelow.scaled(1, 0, 1, 1000000));
        checks.due("by 1", -1000000000001L, () -> moreBelow.scaled(1, 0, 1, 1));
        ExactFilter far = new ExactFilter();
        far.begin(2);
        for (int i = 0; i < 2; i++) {
            for (int j = 0; j < 2; j++) {
                far.set(1, i, j, 20, 1);
                far.set(2, i, j, i == 0 ? 20 : -20, 1);
            }
        }
        far.set(2, 0, 1, -20, 1);
        far.set(2, 1, 1, 20, 1);
        far.set(1, 0, 1, -20, 1);
        far.start();
        for (int step = 0; step < 4; step++) {
            far.predict();
        }
        checks.due("the longest", 131072000000000L, () -> far.scaled(1, 0, 0, 1));
        // Beyond what a long holds, with a lower part of either sign.
        int[] factors = {7630, 70368, 70369, 100000, 140737, 140738, 500000, 1000000};
        for (int factor : factors) {
            checks.due("far beyond by " + factor, LIMIT, () -> far.scaled(1, 0, 0, factor));
            checks.due("far beyond below 0 by " + factor, -LIMIT, () -> far.scaled(1, 0, 1, factor));
        }
    }

    /** "IllegalArgumentException if the fraction isn't as it must be". */
    private static void compareHasItsFractionsAlone() {
        for (int a = -22; a <= 22; a++) {
            ExactFilter x = withMean(0, 1);
            int above = a;
            for (int b = -2; b <= 22; b++) {
                int below = b;
                String call = "compare with " + a + "/" + b;
                if (a < -20 || a > 20 || b < 1 || b > 20) {
                    checks.fails(call, Checks.ARGUMENT, () -> x.compare(0, 0, 0, above, below));
                } else {
                    checks.due(call, -Integer.signum(a), () -> x.compare(0, 0, 0, above, below));
                }
            }
        }
        int[][] wrong = {{LEAST, 1}, {MOST, 1}, {1, LEAST}, {1, MOST}};
        ExactFilter x = withMean(0, 1);
        for (int[] row : wrong) {
            checks.fails("compare with " + row[0] + "/" + row[1], Checks.ARGUMENT,
                    () -> x.compare(0, 0, 0, row[0], row[1]));
        }
    }

    /** "like": the fraction may have common divisors. */
    private static void compareIsLikeForEveryFormOfAFraction() {
        for (int times = 1; times <= 10; times++) {
            int factor = times;
            checks.due("1/2", 0, () -> withMean(1, 2).compare(0, 0, 0, factor, 2 * factor));
            checks.due("-2", 0, () -> withMean(-2, 1).compare(0, 0, 0, -2 * factor, factor));
            checks.due("0", 0, () -> withMean(0, 1).compare(0, 0, 0, 0, factor));
        }
    }

    /** "-1, 0, 1 as a number is less than, like, greater than a fraction": by one 160000th. */
    private static void compareTellsNearNumbersApart() {
        int[][] fractions = {{1, 2}, {-1, 2}, {20, 1}, {-20, 1}, {1, 20}, {-1, 20}, {0, 1}, {19, 20}};
        for (int[] row : fractions) {
            for (int difference = -1; difference <= 1; difference++) {
                ExactFilter x = withMean(difference, 1);
                x.set(2, 0, 0, 1, 20);
                x.predict();
                x.predict();
                x.predict();
                x.set(3, 0, 0, row[0], row[1]);
                x.predict();
                checks.due(row[0] + "/" + row[1] + " and " + difference + "/160000", difference,
                        () -> x.compare(0, 0, 0, row[0], row[1]));
            }
        }
    }
}
