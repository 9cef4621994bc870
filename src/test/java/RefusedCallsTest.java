/** "A call that throws changes nothing": for every exception that the document names, in promises 2 to 11. */
public final class RefusedCallsTest {
    private static final Checks checks = new Checks();
    private static final int LEAST = Integer.MIN_VALUE;
    private static final int MOST = Integer.MAX_VALUE;

    /** Of each kind of wrong fraction one. */
    private static final int[][] NO_FRACTIONS = {
        {21, 1}, {-21, 1}, {1, 0}, {1, 21}, {1, -1}, {LEAST, 1}, {MOST, 1}, {1, LEAST}, {1, MOST},
    };

    public static void main(String[] args) {
        beginRefused();
        setOfNoNumberRefused();
        setToNoFractionRefused();
        startWithUnfitCovarianceRefused();
        startBeyondTheLastRefused();
        predictRefused();
        measureOfNoFractionRefused();
        measureInAWrongStateRefused();
        measureWithoutVarianceRefused();
        questionsInAWrongStateRefused();
        questionsForNoNumberRefused();
        questionsWithOtherWrongArgumentsRefused();
        checks.end();
    }

    private static void refused(String name, String exception, Twins.Calls before, Twins.Calls call) {
        Twins.refused(checks, name, exception, before, call);
    }

    private static void nothingYet(ExactFilter x) {
    }

    private static void setAll(ExactFilter x, int[][] told) {
        for (int[] row : told) {
            x.set(row[0], row[1], row[2], row[3], row[4]);
        }
    }

    /** A model of size two in which no number is like another one that stands near it. */
    private static void toldOfSizeTwo(ExactFilter x) {
        x.begin(2);
        setAll(x, new int[][] {
            {0, 0, 0, 1, 2}, {0, 1, 0, -1, 3}, {1, 0, 0, 2, 1}, {1, 1, 1, 3, 1}, {1, 0, 1, 1, 1},
            {2, 0, 0, 3, 2}, {2, 0, 1, 1, 4}, {2, 1, 0, -1, 5}, {2, 1, 1, 4, 3}, {3, 0, 0, 1, 5}, {3, 1, 0, -1, 7},
            {4, 0, 0, 1, 3}, {4, 1, 1, 1, 4}, {4, 0, 1, 1, 6}, {5, 0, 0, 7, 6}, {5, 1, 0, 1, 2}, {6, 0, 0, 2, 3},
        });
    }

    private static void startedOfSizeTwo(ExactFilter x) {
        toldOfSizeTwo(x);
        x.start();
    }

    private static void measuredOfSizeTwo(ExactFilter x) {
        startedOfSizeTwo(x);
        x.predict();
        x.measure(5, 4);
    }

    private static void measuredOfSizeOne(ExactFilter x) {
        setAll(x, new int[][] {
            {0, 0, 0, 1, 2}, {1, 0, 0, 3, 1}, {2, 0, 0, 3, 2}, {3, 0, 0, 1, 5}, {4, 0, 0, 1, 3}, {5, 0, 0, 7, 6},
            {6, 0, 0, 2, 3},
        });
        x.start();
        x.predict();
        x.measure(5, 4);
    }

    private static void beginRefused() {
        int[] sizes = {0, 3, -1, -2, LEAST, MOST};
        for (int size : sizes) {
            String name = "begin(" + size + ")";
            refused(name + " at first", Checks.ARGUMENT, RefusedCallsTest::nothingYet, x -> x.begin(size));
            refused(name + " of size two", Checks.ARGUMENT, RefusedCallsTest::measuredOfSizeTwo, x -> x.begin(size));
            refused(name + " of size one", Checks.ARGUMENT, RefusedCallsTest::measuredOfSizeOne, x -> x.begin(size));
        }
    }

    private static void setOfNoNumberRefused() {
        int[][] none = {
            {-1, 0, 0}, {7, 0, 0}, {LEAST, 0, 0}, {MOST, 0, 0}, {0, -1, 0}, {0, 2, 0}, {0, 0, 1}, {0, 1, 1}, {0, 0, -1},
            {1, 2, 0}, {1, 0, 2}, {1, -1, 1}, {1, 1, -1}, {1, MOST, 0}, {1, 0, LEAST}, {2, 2, 1}, {2, 1, 2}, {2, 0, -1},
            {3, 2, 0}, {3, 0, 1}, {3, -1, 0}, {4, 2, 0}, {4, 0, 2}, {4, -1, 0}, {5, 2, 0}, {5, 0, 1}, {5, -1, 0},
            {6, 1, 0}, {6, 0, 1}, {6, -1, 0}, {6, 0, -1},
        };
        for (int[] row : none) {
            refused("set(" + row[0] + ", " + row[1] + ", " + row[2] + ", 9, 11)", Checks.ARGUMENT,
                    RefusedCallsTest::measuredOfSizeTwo, x -> x.set(row[0], row[1], row[2], 9, 11));
        }
        int[][] noneOfSizeOne = {
            {0, 1, 0}, {1, 1, 0}, {1, 0, 1}, {1, 1, 1}, {2, 0, 1}, {2, 1, 1}, {3, 1, 0}, {4, 0, 1}, {4, 1, 1}, {5, 1, 0},
        };
        for (int[] row : noneOfSizeOne) {
            refused("set(" + row[0] + ", " + row[1] + ", " + row[2] + ", 9, 11) of size one", Checks.ARGUMENT,
                    RefusedCallsTest::measuredOfSizeOne, x -> x.set(row[0], row[1], row[2], 9, 11));
        }
    }

    private static void setToNoFractionRefused() {
        int[][] numbers = {
            {0, 0, 0}, {0, 1, 0}, {1, 0, 0}, {1, 0, 1}, {1, 1, 1}, {2, 0, 0}, {2, 0, 1}, {2, 1, 0}, {2, 1, 1},
            {3, 0, 0}, {3, 1, 0}, {4, 0, 0}, {4, 1, 0}, {4, 1, 1}, {5, 0, 0}, {5, 1, 0}, {6, 0, 0},
        };
        for (int[] row : numbers) {
            for (int[] to : NO_FRACTIONS) {
                refused("set(" + row[0] + ", " + row[1] + ", " + row[2] + ", " + to[0] + ", " + to[1] + ")",
                        Checks.ARGUMENT, RefusedCallsTest::measuredOfSizeTwo,
                        x -> x.set(row[0], row[1], row[2], to[0], to[1]));
            }
        }
    }

    private static void startWithUnfitCovarianceRefused() {
        int[][][] unfit = {
            {{1, 0, 0, -1, 20}}, {{1, 1, 1, -1, 20}}, {{1, 0, 0, -1, 1}, {1, 1, 1, -7, 1}}, {{1, 0, 1, 5, 2}},
            {{1, 1, 0, -5, 2}}, {{1, 0, 0, 0, 1}},
        };
        for (int[][] told : unfit) {
            refused("the first start with unfit c", Checks.STATE, x -> {
                toldOfSizeTwo(x);
                setAll(x, told);
            }, ExactFilter::start);
            refused("start again with unfit c", Checks.STATE, x -> {
                measuredOfSizeTwo(x);
                setAll(x, told);
            }, ExactFilter::start);
        }
        refused("start of size one with c below 0", Checks.STATE, x -> {
            measuredOfSizeOne(x);
            x.set(0, 0, 0, 9, 1);
            x.set(1, 0, 0, -1, 20);
        }, ExactFilter::start);
    }

    private static void startBeyondTheLastRefused() {
        refused("start 25", Checks.STATE, x -> {
            for (int start = 1; start < 24; start++) {
                x.start();
            }
            measuredOfSizeTwo(x);
            x.set(0, 0, 0, 9, 1);
        }, ExactFilter::start);
        refused("start 25 behind begin", Checks.STATE, x -> {
            for (int start = 1; start <= 24; start++) {
                x.start();
            }
            toldOfSizeTwo(x);
        }, ExactFilter::start);
    }

    private static void predictRefused() {
        refused("predict at first", Checks.STATE, RefusedCallsTest::nothingYet, ExactFilter::predict);
        refused("predict behind begin", Checks.STATE, x -> {
            measuredOfSizeTwo(x);
            toldOfSizeTwo(x);
        }, ExactFilter::predict);
        refused("predict the fifth time", Checks.STATE, x -> {
            measuredOfSizeTwo(x);
            x.predict();
            x.predict();
            x.predict();
        }, ExactFilter::predict);
        int[][][] unfit = {
            {{4, 0, 0, -1, 20}}, {{4, 1, 1, -1, 20}}, {{4, 0, 1, 1, 3}}, {{4, 1, 0, -1, 3}}, {{4, 0, 0, 0, 1}},
        };
        for (int[][] told : unfit) {
            refused("predict with unfit q", Checks.STATE, x -> {
                measuredOfSizeTwo(x);
                setAll(x, told);
            }, ExactFilter::predict);
        }
        refused("predict of size one with q below 0", Checks.STATE, x -> {
            measuredOfSizeOne(x);
            x.set(4, 0, 0, -1, 20);
        }, ExactFilter::predict);
    }

    private static void measureOfNoFractionRefused() {
        for (int[] to : NO_FRACTIONS) {
            String name = "measure(" + to[0] + ", " + to[1] + ")";
            Twins.Calls call = x -> x.measure(to[0], to[1]);
            refused(name + " before start", Checks.ARGUMENT, RefusedCallsTest::toldOfSizeTwo, call);
            refused(name + " behind start", Checks.ARGUMENT, RefusedCallsTest::startedOfSizeTwo, call);
            refused(name + " behind a measurement", Checks.ARGUMENT, RefusedCallsTest::measuredOfSizeTwo, call);
            refused(name + " of size one", Checks.ARGUMENT, RefusedCallsTest::measuredOfSizeOne, call);
        }
    }

    private static void measureInAWrongStateRefused() {
        Twins.Calls call = x -> x.measure(9, 11);
        refused("measure at first", Checks.STATE, RefusedCallsTest::nothingYet, call);
        refused("measure behind begin", Checks.STATE, x -> {
            measuredOfSizeTwo(x);
            toldOfSizeTwo(x);
        }, call);
        refused("measure the fourth time", Checks.STATE, x -> {
            measuredOfSizeTwo(x);
            x.measure(1, 2);
            x.measure(1, 3);
        }, call);
        refused("the first measurement with unfit r", Checks.STATE, x -> {
            startedOfSizeTwo(x);
            x.set(6, 0, 0, -1, 20);
        }, call);
        refused("the next measurement with unfit r", Checks.STATE, x -> {
            measuredOfSizeTwo(x);
            x.set(6, 0, 0, -1, 20);
        }, call);
    }

    private static void measureWithoutVarianceRefused() {
        Twins.Calls call = x -> x.measure(9, 11);
        int[][] nothingMeasured = {{5, 0, 0, 0, 1}, {5, 1, 0, 0, 1}, {6, 0, 0, 0, 1}};
        refused("the first measurement with s 0", Checks.ARITHMETIC, x -> {
            startedOfSizeTwo(x);
            setAll(x, nothingMeasured);
        }, call);
        refused("the next measurement with s 0", Checks.ARITHMETIC, x -> {
            measuredOfSizeTwo(x);
            setAll(x, nothingMeasured);
        }, call);
        refused("measuring without r again", Checks.ARITHMETIC, x -> {
            startedOfSizeTwo(x);
            x.set(6, 0, 0, 0, 1);
            x.measure(1, 3);
        }, call);
    }

    /** All five questions with right arguments of their own. */
    private static void questionsRefused(String name, String exception, Twins.Calls before, int[] place) {
        int what = place[0];
        int i = place[1];
        int j = place[2];
        String at = "(" + what + ", " + i + ", " + j + ") " + name;
        refused("sign" + at, exception, before, x -> x.sign(what, i, j));
        refused("pieces" + at, exception, before, x -> x.pieces(what, i, j, 0));
        refused("piece" + at, exception, before, x -> x.piece(what, i, j, 1, 0));
        refused("scaled" + at, exception, before, x -> x.scaled(what, i, j, 1000));
        refused("compare" + at, exception, before, x -> x.compare(what, i, j, 1, 2));
    }

    private static void questionsInAWrongStateRefused() {
        for (int what = 0; what <= 4; what++) {
            int[] place = {what, 0, 0};
            questionsRefused("at first", Checks.STATE, RefusedCallsTest::nothingYet, place);
            questionsRefused("before start", Checks.STATE, RefusedCallsTest::toldOfSizeTwo, place);
            if (what >= 2) {
                questionsRefused("before a measurement", Checks.STATE, RefusedCallsTest::startedOfSizeTwo, place);
            }
        }
    }

    private static void questionsForNoNumberRefused() {
        int[][] none = {
            {-1, 0, 0}, {5, 0, 0}, {LEAST, 0, 0}, {MOST, 0, 0}, {0, 2, 0}, {0, -1, 0}, {0, 0, 1}, {1, 2, 0}, {1, 0, 2},
            {1, -1, 0}, {1, 0, -1}, {2, 1, 0}, {2, 0, 1}, {3, 1, 0}, {3, 0, 1}, {4, 2, 0}, {4, 0, 1}, {4, -1, 0},
        };
        for (int[] place : none) {
            questionsRefused("for no number", Checks.ARGUMENT, RefusedCallsTest::measuredOfSizeTwo, place);
        }
    }

    private static void questionsWithOtherWrongArgumentsRefused() {
        Twins.Calls before = RefusedCallsTest::measuredOfSizeTwo;
        int[] sides = {-1, 2, LEAST, MOST};
        for (int side : sides) {
            refused("pieces of side " + side, Checks.ARGUMENT, before, x -> x.pieces(0, 0, 0, side));
            refused("piece of side " + side, Checks.ARGUMENT, before, x -> x.piece(0, 0, 0, side, 0));
        }
        int[] belowNothing = {-1, -2, LEAST};
        for (int k : belowNothing) {
            refused("piece " + k, Checks.ARGUMENT, before, x -> x.piece(2, 0, 0, 0, k));
        }
        int[] factors = {0, -1, 1000001, LEAST, MOST};
        for (int factor : factors) {
            refused("scaled by " + factor, Checks.ARGUMENT, before, x -> x.scaled(4, 1, 0, factor));
        }
        for (int[] to : NO_FRACTIONS) {
            refused("compare with " + to[0] + "/" + to[1], Checks.ARGUMENT, before,
                    x -> x.compare(1, 0, 1, to[0], to[1]));
        }
    }
}
