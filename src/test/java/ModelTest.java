/** Promises 1 (a new object), 2 (begin), 3 (set) and 12 (about). */
public final class ModelTest {
    private static final Checks checks = new Checks();

    public static void main(String[] args) {
        newObject();
        firstModelOfSizeOne(new ExactFilter(), "new");
        beginMakesFirstModels();
        beginRefusesOtherSizes();
        beginEndsAStart();
        setReachesEveryNumber();
        setWorksAcrossTheDiagonal();
        setRefusesWhatIsNoNumber();
        setRefusesWhatIsNoFraction();
        setIsForWhatComesBehind();
        aboutTellsOfTheFilter();
        checks.end();
    }

    private static void newObject() {
        ExactFilter x = new ExactFilter();
        checks.due("NONE", -1, () -> ExactFilter.NONE);
        checks.due("new: size", 1, () -> x.about(0));
        checks.due("new: started", 0, () -> x.about(1));
        checks.due("new: predictions", 0, () -> x.about(2));
        checks.due("new: measurements", 0, () -> x.about(3));
        checks.fails("new: sign", Checks.STATE, () -> x.sign(0, 0, 0));
        checks.fails("new: predict", Checks.STATE, x::predict);
        checks.fails("new: measure", Checks.STATE, () -> x.measure(1, 1));
    }

    /** m 0, c 1, f 1, u 0, q 0, h 1, r 1, seen from what the filter does with them. */
    private static void firstModelOfSizeOne(ExactFilter x, String name) {
        checks.works(name + " start", x::start);
        checks.number(x, name + " mean", Checks.mean(0), 0, 1);
        checks.number(x, name + " covariance", Checks.covariance(0, 0), 1, 1);
        checks.due(name + " predict", 1, x::predict);
        checks.number(x, name + " mean predicted", Checks.mean(0), 0, 1);
        checks.number(x, name + " covariance predicted", Checks.covariance(0, 0), 1, 1);
        checks.due(name + " measure", 1, () -> x.measure(3, 1));
        checks.number(x, name + " surprise", Checks.surprise(), 3, 1);
        checks.number(x, name + " variance", Checks.variance(), 2, 1);
        checks.number(x, name + " gain", Checks.gain(0), 1, 2);
        checks.due(name + " predict again", 2, x::predict);
        checks.number(x, name + " mean measured", Checks.mean(0), 3, 2);
        checks.number(x, name + " covariance measured", Checks.covariance(0, 0), 1, 2);
    }

    private static void beginMakesFirstModels() {
        ExactFilter x = new ExactFilter();
        x.begin(2);
        changeAll(x);
        x.begin(2);
        checks.due("begin(2): size", 2, () -> x.about(0));
        x.start();
        checks.due("begin(2): predict", 1, x::predict);
        for (int i = 0; i < 2; i++) {
            checks.number(x, "begin(2): mean " + i, Checks.mean(i), 0, 1);
            for (int j = 0; j < 2; j++) {
                checks.number(x, "begin(2): covariance " + i + j, Checks.covariance(i, j), i == j ? 1 : 0, 1);
            }
        }
        checks.due("begin(2): measure", 1, () -> x.measure(1, 1));
        checks.number(x, "begin(2): variance", Checks.variance(), 3, 1);
        checks.number(x, "begin(2): gain 0", Checks.gain(0), 1, 3);
        checks.number(x, "begin(2): gain 1", Checks.gain(1), 1, 3);
        changeAll(x);
        x.begin(1);
        checks.due("begin(1): size", 1, () -> x.about(0));
        firstModelOfSizeOne(x, "begin(1)");
    }

    private static void changeAll(ExactFilter x) {
        for (int part = 0; part < 7; part++) {
            x.set(part, 0, 0, 5, 3);
        }
        x.set(1, 0, 1, 1, 3);
        x.set(2, 1, 0, 1, 3);
        x.set(5, 1, 0, 7, 3);
    }

    private static void beginRefusesOtherSizes() {
        ExactFilter x = new ExactFilter();
        x.begin(2);
        x.set(0, 1, 0, 7, 5);
        x.start();
        x.predict();
        int[] wrong = {0, 3, -1, 4, Integer.MIN_VALUE, Integer.MAX_VALUE};
        for (int size : wrong) {
            checks.fails("begin(" + size + ")", Checks.ARGUMENT, () -> x.begin(size));
        }
        checks.due("size behind a wrong begin", 2, () -> x.about(0));
        checks.due("started behind a wrong begin", 1, () -> x.about(1));
        checks.due("predictions behind a wrong begin", 1, () -> x.about(2));
        checks.number(x, "mean behind a wrong begin", Checks.mean(1), 7, 5);
    }

    private static void beginEndsAStart() {
        ExactFilter x = new ExactFilter();
        x.start();
        x.predict();
        x.measure(1, 1);
        x.begin(1);
        checks.due("started behind begin", 0, () -> x.about(1));
        checks.due("predictions behind begin", 0, () -> x.about(2));
        checks.due("measurements behind begin", 0, () -> x.about(3));
        checks.fails("sign behind begin", Checks.STATE, () -> x.sign(0, 0, 0));
        checks.fails("surprise behind begin", Checks.STATE, () -> x.sign(2, 0, 0));
        checks.fails("predict behind begin", Checks.STATE, x::predict);
        checks.fails("measure behind begin", Checks.STATE, () -> x.measure(1, 1));
    }

    /** m = (1/2, 1/3), c = (2 0; 0 3), f = (1 2; 3 4), u = (1/5, 1/7), q = (1 0; 0 2), h = (2, 3), r = 1/2. */
    private static void setReachesEveryNumber() {
        ExactFilter x = new ExactFilter();
        x.begin(2);
        int[][] told = {
            {0, 0, 0, 1, 2}, {0, 1, 0, 1, 3}, {1, 0, 0, 2, 1}, {1, 1, 1, 3, 1},
            {2, 0, 0, 1, 1}, {2, 0, 1, 2, 1}, {2, 1, 0, 3, 1}, {2, 1, 1, 4, 1},
            {3, 0, 0, 1, 5}, {3, 1, 0, 1, 7}, {4, 0, 0, 1, 1}, {4, 1, 1, 2, 1},
            {5, 0, 0, 2, 1}, {5, 1, 0, 3, 1}, {6, 0, 0, 1, 2},
        };
        for (int[] row : told) {
            checks.works("set", () -> x.set(row[0], row[1], row[2], row[3], row[4]));
        }
        x.start();
        checks.number(x, "set m 0", Checks.mean(0), 1, 2);
        checks.number(x, "set m 1", Checks.mean(1), 1, 3);
        checks.number(x, "set c 00", Checks.covariance(0, 0), 2, 1);
        checks.number(x, "set c 11", Checks.covariance(1, 1), 3, 1);
        x.predict();
        checks.number(x, "set f, u 0", Checks.mean(0), 41, 30);
        checks.number(x, "set f, u 1", Checks.mean(1), 125, 42);
        checks.number(x, "set f, q 00", Checks.covariance(0, 0), 15, 1);
        checks.number(x, "set f, q 01", Checks.covariance(0, 1), 30, 1);
        checks.number(x, "set f, q 10", Checks.covariance(1, 0), 30, 1);
        checks.number(x, "set f, q 11", Checks.covariance(1, 1), 68, 1);
        x.measure(1, 1);
        checks.number(x, "set h, r", Checks.variance(), 2065, 2);
        checks.number(x, "set h", Checks.surprise(), -2239, 210);
        checks.number(x, "set h, gain 0", Checks.gain(0), 48, 413);
        checks.number(x, "set h, gain 1", Checks.gain(1), 528, 2065);
    }

    private static void setWorksAcrossTheDiagonal() {
        int[] covariances = {1, 4};
        for (int part : covariances) {
            for (int i = 0; i < 2; i++) {
                ExactFilter x = new ExactFilter();
                x.begin(2);
                x.set(part, 0, 0, 1, 1);
                x.set(part, 1, 1, 1, 1);
                int row = i;
                checks.works("set across", () -> x.set(part, row, 1 - row, -1, 3));
                x.start();
                x.predict();
                checks.number(x, "across 01 of part " + part, Checks.covariance(0, 1), -1, 3);
                checks.number(x, "across 10 of part " + part, Checks.covariance(1, 0), -1, 3);
            }
        }
        ExactFilter x = new ExactFilter();
        x.begin(2);
        x.set(0, 0, 0, 1, 1);
        x.set(0, 1, 0, 2, 1);
        x.set(2, 0, 1, 5, 1);
        x.start();
        x.predict();
        checks.number(x, "f is not the same across, 0", Checks.mean(0), 11, 1);
        checks.number(x, "f is not the same across, 1", Checks.mean(1), 2, 1);
    }

    private static void setRefusesWhatIsNoNumber() {
        for (int size = 1; size <= 2; size++) {
            ExactFilter x = new ExactFilter();
            x.begin(size);
            for (int part = -2; part <= 8; part++) {
                for (int i = -1; i <= 3; i++) {
                    for (int j = -1; j <= 3; j++) {
                        look(x, size, part, i, j);
                    }
                }
            }
            look(x, size, Integer.MAX_VALUE, 0, 0);
            look(x, size, Integer.MIN_VALUE, 0, 0);
            look(x, size, 1, Integer.MAX_VALUE, 0);
            look(x, size, 1, 0, Integer.MIN_VALUE);
        }
    }

    private static void look(ExactFilter x, int size, int part, int i, int j) {
        boolean table = part == 1 || part == 2 || part == 4;
        boolean there = part >= 0 && part <= 6
                && i >= 0 && i < (part == 6 ? 1 : size)
                && j >= 0 && j < (table ? size : 1);
        String call = "size " + size + ": set(" + part + ", " + i + ", " + j + ", 1, 1)";
        if (there) {
            checks.works(call, () -> x.set(part, i, j, 1, 1));
        } else {
            checks.fails(call, Checks.ARGUMENT, () -> x.set(part, i, j, 1, 1));
        }
    }

    private static void setRefusesWhatIsNoFraction() {
        ExactFilter x = new ExactFilter();
        int[][] right = {{20, 1}, {-20, 1}, {20, 20}, {-20, 20}, {0, 20}, {6, 4}};
        for (int[] row : right) {
            checks.works("set " + row[0] + "/" + row[1], () -> x.set(0, 0, 0, row[0], row[1]));
        }
        int[][] wrong = {{21, 1}, {-21, 1}, {1, 0}, {1, -1}, {1, 21}, {0, 0}, {Integer.MIN_VALUE, 1},
            {Integer.MAX_VALUE, 1}, {1, Integer.MIN_VALUE}, {1, Integer.MAX_VALUE}};
        for (int part = 0; part < 7; part++) {
            for (int[] row : wrong) {
                int to = part;
                checks.fails("set " + row[0] + "/" + row[1], Checks.ARGUMENT, () -> x.set(to, 0, 0, row[0], row[1]));
            }
        }
        x.start();
        checks.number(x, "the fraction in lowest terms", Checks.mean(0), 3, 2);
        checks.number(x, "c behind wrong calls", Checks.covariance(0, 0), 1, 1);
    }

    private static void setIsForWhatComesBehind() {
        ExactFilter x = new ExactFilter();
        x.set(0, 0, 0, 2, 1);
        x.start();
        x.set(0, 0, 0, 7, 1);
        x.set(1, 0, 0, 5, 1);
        checks.number(x, "mean behind set of m", Checks.mean(0), 2, 1);
        checks.number(x, "covariance behind set of c", Checks.covariance(0, 0), 1, 1);
        x.predict();
        x.set(2, 0, 0, 3, 1);
        checks.number(x, "mean behind set of f", Checks.mean(0), 2, 1);
        x.predict();
        checks.number(x, "mean by the new f", Checks.mean(0), 6, 1);
        checks.number(x, "covariance by the new f", Checks.covariance(0, 0), 9, 1);
        x.measure(1, 1);
        x.set(5, 0, 0, 2, 1);
        checks.number(x, "variance behind set of h", Checks.variance(), 10, 1);
        x.start();
        checks.number(x, "mean by the new m", Checks.mean(0), 7, 1);
        checks.number(x, "covariance by the new c", Checks.covariance(0, 0), 5, 1);
    }

    private static void aboutTellsOfTheFilter() {
        ExactFilter x = new ExactFilter();
        x.begin(2);
        x.start();
        x.predict();
        x.predict();
        x.predict();
        x.measure(1, 1);
        x.measure(1, 1);
        int[] due = {2, 1, 3, 2, -1};
        for (int what = 0; what < due.length; what++) {
            int asked = what;
            checks.due("about(" + what + ")", due[what], () -> x.about(asked));
        }
        int[] others = {-1, 5, Integer.MIN_VALUE, Integer.MAX_VALUE};
        for (int what : others) {
            checks.due("about(" + what + ")", ExactFilter.NONE, () -> x.about(what));
        }
        x.start();
        checks.due("predictions behind start", 0, () -> x.about(2));
        checks.due("measurements behind start", 0, () -> x.about(3));
    }
}
