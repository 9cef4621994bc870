/**
 * The boundary cases of the document's terms and of promises 1 (a new object), 2 (begin), 3 (set) and 12 (about):
 * a test for each sentence that names one. That refused calls change nothing is in RefusedCallsTest.
 */
public final class ModelBoundariesTest {
    private static final Checks checks = new Checks();
    private static final int LEAST = Integer.MIN_VALUE;
    private static final int MOST = Integer.MAX_VALUE;

    public static void main(String[] args) {
        toldFractionsOfSet();
        toldFractionsOfEveryPart();
        nothingIsNothingByOne();
        theLastCallOfAllAnswers();
        aNewObjectHasSizeOne();
        aNewObjectHasItsFirstModel();
        aNewObjectIsNotStarted();
        beginTakesOneAndTwoAlone();
        beginForgetsTheModelWholly();
        beginOfSizeTwoHasItsFirstModel();
        beginIsNotStarted();
        setHasTheNumbersOfSizeOneAlone();
        setHasTheNumbersOfSizeTwoAlone();
        setOfRowsHasPlaceNothingAlone();
        setOfRHasOneNumberAlone();
        setChangesTheOneAcrossInCovariances();
        setChangesNoOtherNumber();
        setIsForWhatComesBehind();
        aboutAnswersNoneForAnotherWhat();
        aboutHasNothingAsLongAsItHasNotStarted();
        aboutCountsToItsLimits();
        checks.end();
    }

    private static int common(int one, int other) {
        return other == 0 ? one : common(other, one % other);
    }

    /** "Those that are told have -20 .. 20 above, and 1 .. 20 below, with or without common divisors." */
    private static void toldFractionsOfSet() {
        for (int a = -22; a <= 22; a++) {
            ExactFilter x = new ExactFilter();
            int above = a;
            for (int b = -2; b <= 22; b++) {
                int below = b;
                String call = "set(0, 0, 0, " + a + ", " + b + ")";
                if (a < -20 || a > 20 || b < 1 || b > 20) {
                    checks.fails(call, Checks.ARGUMENT, () -> x.set(0, 0, 0, above, below));
                    continue;
                }
                checks.works(call, () -> x.set(0, 0, 0, above, below));
                x.start();
                int divisor = common(Math.abs(a), b);
                checks.number(x, call + " mean", Checks.mean(0), a / divisor, b / divisor);
            }
        }
    }

    private static void toldFractionsOfEveryPart() {
        int[][] right = {{20, 1}, {-20, 1}, {20, 20}, {-20, 20}, {0, 1}, {0, 20}, {1, 20}, {-1, 20}};
        int[][] wrong = {{21, 1}, {-21, 1}, {21, 20}, {-21, 20}, {20, 0}, {-20, 0}, {0, 0}, {20, 21}, {-20, 21},
            {0, 21}, {20, -1}, {-20, -20}, {0, -1}, {LEAST, 1}, {MOST, 1}, {1, LEAST}, {1, MOST}, {LEAST, LEAST},
            {MOST, MOST}};
        for (int part = 0; part <= 6; part++) {
            ExactFilter x = new ExactFilter();
            int to = part;
            for (int[] row : right) {
                checks.works("set " + part + " to " + row[0] + "/" + row[1], () -> x.set(to, 0, 0, row[0], row[1]));
            }
            for (int[] row : wrong) {
                checks.fails("set " + part + " to " + row[0] + "/" + row[1], Checks.ARGUMENT,
                        () -> x.set(to, 0, 0, row[0], row[1]));
            }
        }
    }

    /** "(0 is 0 / 1)", whichever fraction it was told as and whichever step made it. */
    private static void nothingIsNothingByOne() {
        ExactFilter x = new ExactFilter();
        x.set(0, 0, 0, 0, 20);
        x.set(1, 0, 0, 0, 19);
        x.start();
        checks.number(x, "mean told as 0/20", Checks.mean(0), 0, 1);
        checks.number(x, "covariance told as 0/19", Checks.covariance(0, 0), 0, 1);
        x.set(3, 0, 0, 3, 7);
        x.predict();
        checks.number(x, "mean", Checks.mean(0), 3, 7);
        x.measure(6, 14);
        checks.number(x, "no surprise", Checks.surprise(), 0, 1);
        checks.number(x, "no gain", Checks.gain(0), 0, 1);
        x.set(3, 0, 0, -6, 14);
        x.predict();
        checks.number(x, "mean back at 0", Checks.mean(0), 0, 1);
    }

    /** "An object is used for at most 512 calls after it has been made". */
    private static void theLastCallOfAllAnswers() {
        ExactFilter x = new ExactFilter();
        for (int call = 1; call <= 509; call++) {
            x.set(0, 0, 0, call % 20 + 1, 20);
        }
        x.start();
        checks.due("call 511", 500, () -> x.scaled(0, 0, 0, 1000));
        checks.due("call 512", 2, () -> x.piece(0, 0, 0, 1, 0));
    }

    /** "Size one". */
    private static void aNewObjectHasSizeOne() {
        ExactFilter x = new ExactFilter();
        checks.due("size", 1, () -> x.about(0));
        for (int part = 0; part <= 6; part++) {
            int to = part;
            checks.works("set(" + part + ", 0, 0)", () -> x.set(to, 0, 0, 1, 1));
            checks.fails("set(" + part + ", 1, 0)", Checks.ARGUMENT, () -> x.set(to, 1, 0, 1, 1));
        }
    }

    /** "all of the model 0, but f and h 1, c and r 1": each number shows itself by itself. */
    private static void aNewObjectHasItsFirstModel() {
        ExactFilter x = new ExactFilter();
        x.start();
        checks.number(x, "m", Checks.mean(0), 0, 1);
        checks.number(x, "c", Checks.covariance(0, 0), 1, 1);
        x.set(0, 0, 0, 7, 2);
        x.start();
        x.predict();
        checks.number(x, "f and u", Checks.mean(0), 7, 2);
        checks.number(x, "f and q", Checks.covariance(0, 0), 1, 1);
        x.measure(3, 1);
        checks.number(x, "h", Checks.surprise(), -1, 2);
        checks.number(x, "h and r", Checks.variance(), 2, 1);
    }

    /** "not started". */
    private static void aNewObjectIsNotStarted() {
        notStarted("new", new ExactFilter());
    }

    private static void notStarted(String name, ExactFilter x) {
        for (int what = 1; what <= 3; what++) {
            int asked = what;
            checks.due(name + " about(" + what + ")", 0, () -> x.about(asked));
        }
        checks.fails(name + " predict", Checks.STATE, x::predict);
        checks.fails(name + " measure", Checks.STATE, () -> x.measure(1, 1));
        for (int what = 0; what <= 4; what++) {
            int asked = what;
            checks.fails(name + " sign(" + what + ", 0, 0)", Checks.STATE, () -> x.sign(asked, 0, 0));
        }
    }

    /** "IllegalArgumentException if it is not 1 or 2". */
    private static void beginTakesOneAndTwoAlone() {
        int[] sizes = {LEAST, -3, -2, -1, 0, 1, 2, 3, 4, 5, 65537, 65538, MOST};
        for (int size : sizes) {
            ExactFilter x = new ExactFilter();
            if (size == 1 || size == 2) {
                checks.works("begin(" + size + ")", () -> x.begin(size));
                checks.due("size", size, () -> x.about(0));
            } else {
                checks.fails("begin(" + size + ")", Checks.ARGUMENT, () -> x.begin(size));
                checks.due("size", 1, () -> x.about(0));
            }
        }
    }

    private static void changeAll(ExactFilter x) {
        int size = x.about(0);
        for (int part = 0; part <= 6; part++) {
            int rows = part == 6 ? 1 : size;
            int places = part == 1 || part == 2 || part == 4 ? size : 1;
            for (int i = 0; i < rows; i++) {
                for (int j = 0; j < places; j++) {
                    x.set(part, i, j, i == j ? 19 : 7, 13 - part);
                }
            }
        }
    }

    /** "A new model of some size, as at first", from each size to each, the same one too. */
    private static void beginForgetsTheModelWholly() {
        for (int from = 1; from <= 2; from++) {
            for (int to = 1; to <= 2; to++) {
                ExactFilter used = new ExactFilter();
                used.begin(from);
                changeAll(used);
                used.begin(to);
                ExactFilter fresh = new ExactFilter();
                fresh.begin(to);
                Twins.alike(checks, "begin(" + to + ") behind size " + from, fresh, used);
            }
        }
        ExactFilter begun = new ExactFilter();
        begun.begin(1);
        Twins.alike(checks, "begin(1) is as at first", new ExactFilter(), begun);
    }

    /** "(of size two f and c with 1 on the diagonal, both numbers of h 1)". */
    private static void beginOfSizeTwoHasItsFirstModel() {
        ExactFilter x = new ExactFilter();
        x.begin(2);
        x.start();
        checks.number(x, "m 0", Checks.mean(0), 0, 1);
        checks.number(x, "m 1", Checks.mean(1), 0, 1);
        firstCovariance(x, "c");
        x.set(0, 0, 0, 5, 2);
        x.set(0, 1, 0, -4, 3);
        x.start();
        x.predict();
        checks.number(x, "f and u 0", Checks.mean(0), 5, 2);
        checks.number(x, "f and u 1", Checks.mean(1), -4, 3);
        firstCovariance(x, "f and q");
        x.measure(1, 1);
        checks.number(x, "h", Checks.surprise(), -1, 6);
        checks.number(x, "h and r", Checks.variance(), 3, 1);
    }

    private static void firstCovariance(ExactFilter x, String name) {
        for (int i = 0; i < 2; i++) {
            for (int j = 0; j < 2; j++) {
                checks.number(x, name + " " + i + j, Checks.covariance(i, j), i == j ? 1 : 0, 1);
            }
        }
    }

    /** "not started". */
    private static void beginIsNotStarted() {
        for (int size = 1; size <= 2; size++) {
            ExactFilter x = new ExactFilter();
            x.start();
            x.predict();
            x.measure(1, 1);
            x.begin(size);
            notStarted("begin(" + size + ")", x);
        }
    }

    /** "i and j tell its row and place in the row"; "IllegalArgumentException if there is no such number". */
    private static void setHasTheNumbersOfSizeOneAlone() {
        ExactFilter x = new ExactFilter();
        for (int part = -2; part <= 8; part++) {
            for (int i = -1; i <= 2; i++) {
                for (int j = -1; j <= 2; j++) {
                    boolean there = part >= 0 && part <= 6 && i == 0 && j == 0;
                    look(x, there, part, i, j);
                }
            }
        }
        extremes(x);
    }

    private static void setHasTheNumbersOfSizeTwoAlone() {
        ExactFilter x = new ExactFilter();
        x.begin(2);
        for (int part = 1; part <= 4; part++) {
            if (part == 3) {
                continue;
            }
            for (int i = -2; i <= 4; i++) {
                for (int j = -2; j <= 4; j++) {
                    look(x, i >= 0 && i <= 1 && j >= 0 && j <= 1, part, i, j);
                }
            }
        }
        look(x, false, -1, 0, 0);
        look(x, false, 7, 0, 0);
        extremes(x);
    }

    private static void extremes(ExactFilter x) {
        int[] far = {LEAST, MOST, 65536, -65536};
        for (int value : far) {
            look(x, false, value, 0, 0);
            for (int part = 0; part <= 6; part++) {
                look(x, false, part, value, 0);
                look(x, false, part, 0, value);
            }
        }
    }

    /** "of rows j is 0". */
    private static void setOfRowsHasPlaceNothingAlone() {
        ExactFilter x = new ExactFilter();
        x.begin(2);
        int[] rows = {0, 3, 5};
        for (int part : rows) {
            for (int i = -2; i <= 4; i++) {
                for (int j = -2; j <= 4; j++) {
                    look(x, i >= 0 && i <= 1 && j == 0, part, i, j);
                }
            }
        }
    }

    /** "of r both are 0". */
    private static void setOfRHasOneNumberAlone() {
        for (int size = 1; size <= 2; size++) {
            ExactFilter x = new ExactFilter();
            x.begin(size);
            for (int i = -2; i <= 2; i++) {
                for (int j = -2; j <= 2; j++) {
                    look(x, i == 0 && j == 0, 6, i, j);
                }
            }
        }
    }

    private static void look(ExactFilter x, boolean there, int part, int i, int j) {
        String call = "size " + x.about(0) + ": set(" + part + ", " + i + ", " + j + ", 1, 1)";
        if (there) {
            checks.works(call, () -> x.set(part, i, j, 1, 1));
        } else {
            checks.fails(call, Checks.ARGUMENT, () -> x.set(part, i, j, 1, 1));
        }
    }

    /** "(In c and q the one across the diagonal, too.)" */
    private static void setChangesTheOneAcrossInCovariances() {
        ExactFilter x = new ExactFilter();
        x.begin(2);
        x.set(1, 0, 1, 1, 3);
        x.start();
        beside(x, "c by 0, 1", 1, 3);
        x.set(1, 1, 0, -1, 5);
        x.start();
        beside(x, "c by 1, 0", -1, 5);
        x.set(1, 0, 1, 0, 1);
        x.set(4, 0, 0, 1, 1);
        x.set(4, 1, 1, 1, 1);
        x.set(4, 0, 1, 1, 7);
        x.start();
        x.predict();
        beside(x, "q by 0, 1", 1, 7);
        x.set(4, 1, 0, -1, 9);
        x.start();
        x.predict();
        beside(x, "q by 1, 0", -1, 9);
    }

    private static void beside(ExactFilter x, String name, int above, int below) {
        checks.number(x, name + ": 0, 1", Checks.covariance(0, 1), above, below);
        checks.number(x, name + ": 1, 0", Checks.covariance(1, 0), above, below);
    }

    /** f has no such rule, and a number of a diagonal is across from itself alone. */
    private static void setChangesNoOtherNumber() {
        ExactFilter x = new ExactFilter();
        x.begin(2);
        x.set(0, 0, 0, 1, 1);
        x.set(0, 1, 0, 1, 1);
        x.set(1, 0, 0, 5, 1);
        x.set(2, 1, 0, 3, 1);
        x.start();
        checks.number(x, "c 00", Checks.covariance(0, 0), 5, 1);
        checks.number(x, "c 11", Checks.covariance(1, 1), 1, 1);
        checks.number(x, "c 01", Checks.covariance(0, 1), 0, 1);
        x.predict();
        checks.number(x, "by the upper row of f", Checks.mean(0), 1, 1);
        checks.number(x, "by the lower row of f", Checks.mean(1), 4, 1);
    }

    /** "Changes of the model are for what comes behind them." */
    private static void setIsForWhatComesBehind() {
        ExactFilter x = new ExactFilter();
        x.start();
        x.predict();
        x.measure(3, 1);
        String[] names = {"m", "c", "f", "u", "q", "h", "r"};
        for (int part = 0; part <= 6; part++) {
            x.set(part, 0, 0, 5, 1);
            checks.number(x, "mean behind " + names[part], Checks.mean(0), 3, 2);
            checks.number(x, "covariance behind " + names[part], Checks.covariance(0, 0), 1, 2);
            checks.number(x, "surprise behind " + names[part], Checks.surprise(), 3, 1);
            checks.number(x, "variance behind " + names[part], Checks.variance(), 2, 1);
            checks.number(x, "gain behind " + names[part], Checks.gain(0), 1, 2);
        }
        x.predict();
        checks.number(x, "the new f and u", Checks.mean(0), 25, 2);
        checks.number(x, "the new f and q", Checks.covariance(0, 0), 35, 2);
        x.measure(3, 1);
        checks.number(x, "the new h", Checks.surprise(), -119, 2);
        checks.number(x, "the new h and r", Checks.variance(), 885, 2);
        x.start();
        checks.number(x, "the new m", Checks.mean(0), 5, 1);
        checks.number(x, "the new c", Checks.covariance(0, 0), 5, 1);
    }

    /** "NONE for another what." */
    private static void aboutAnswersNoneForAnotherWhat() {
        checks.due("NONE", -1, () -> ExactFilter.NONE);
        int[] others = {-1, -2, 4, 5, 65536, LEAST, MOST};
        ExactFilter x = new ExactFilter();
        noneFor(x, "at first", others);
        x.begin(2);
        x.start();
        noneFor(x, "started", others);
        x.predict();
        x.measure(1, 1);
        noneFor(x, "measured", others);
    }

    private static void noneFor(ExactFilter x, String name, int[] others) {
        for (int what : others) {
            checks.due(name + " about(" + what + ")", -1, () -> x.about(what));
        }
    }

    private static void aboutIs(ExactFilter x, String name, int... due) {
        for (int what = 0; what <= 3; what++) {
            int asked = what;
            checks.due(name + ": about(" + what + ")", due[what], () -> x.about(asked));
        }
    }

    /** "2 predictions, 3 measurements (0 as long as it hasn't started)". */
    private static void aboutHasNothingAsLongAsItHasNotStarted() {
        ExactFilter x = new ExactFilter();
        aboutIs(x, "new", 1, 0, 0, 0);
        x.set(1, 0, 0, -1, 1);
        checks.fails("start with unfit c", Checks.STATE, x::start);
        aboutIs(x, "refused", 1, 0, 0, 0);
        x.set(1, 0, 0, 1, 1);
        x.start();
        aboutIs(x, "started", 1, 1, 0, 0);
        x.predict();
        x.predict();
        x.measure(1, 1);
        aboutIs(x, "in its course", 1, 1, 2, 1);
        x.start();
        aboutIs(x, "started again", 1, 1, 0, 0);
        x.predict();
        x.measure(1, 1);
        x.begin(2);
        aboutIs(x, "begun", 2, 0, 0, 0);
    }

    private static void aboutCountsToItsLimits() {
        ExactFilter x = new ExactFilter();
        x.start();
        for (int step = 1; step <= 5; step++) {
            Checks.outcome(x::predict);
            aboutIs(x, "predict " + step, 1, 1, Math.min(step, 4), 0);
        }
        for (int step = 1; step <= 4; step++) {
            Checks.outcome(() -> x.measure(1, 1));
            aboutIs(x, "measure " + step, 1, 1, 4, Math.min(step, 3));
        }
    }
}
