import java.util.Arrays;

/**
 * A filter that tells from inexact measurements where something is, step by step,
 * in exact fractions of any length.
 */
public final class ExactFilter {
    public static final int NONE = -1;

    private static final int MOST_STARTS = 24;
    private static final int MOST_PREDICTIONS = 4;
    private static final int MOST_MEASUREMENTS = 3;
    private static final int MOST_ABOVE = 20;
    private static final int MOST_BELOW = 20;
    private static final int MOST_FACTOR = 1000000;

    private static final int MEAN = 0;
    private static final int COVARIANCE = 1;
    private static final int SURPRISE = 2;
    private static final int VARIANCE = 3;
    private static final int GAIN = 4;

    private Model model;
    private int starts;
    private boolean started;
    private int predictions;
    private int measurements;
    private Table mean;
    private Table covariance;
    private Table surprise;
    private Table variance;
    private Table gain;

    public ExactFilter() {
        model = new Model(1);
        Table nothing = Table.ofFraction(0, 1);
        mean = nothing;
        covariance = nothing;
        surprise = nothing;
        variance = nothing;
        gain = nothing;
    }

    public void begin(int size) throws IllegalArgumentException {
        if (size != 1 && size != 2) {
            throw new IllegalArgumentException();
        }
        model = new Model(size);
        started = false;
        predictions = 0;
        measurements = 0;
    }

    public void set(int part, int i, int j, int above, int below) throws IllegalArgumentException {
        if (!model.has(part, i, j) || !isFraction(above, below)) {
            throw new IllegalArgumentException();
        }
        model.put(part, i, j, above, below);
    }

    public void start() throws IllegalStateException {
        if (!model.isFit(Model.C) || starts >= MOST_STARTS) {
            throw new IllegalStateException();
        }
        mean = model.table(Model.M);
        covariance = model.table(Model.C);
        starts++;
        started = true;
        predictions = 0;
        measurements = 0;
    }

    public int predict() throws IllegalStateException {
        if (!started || !model.isFit(Model.Q) || predictions >= MOST_PREDICTIONS) {
            throw new IllegalStateException();
        }
        Table f = model.table(Model.F);
        mean = f.times(mean).plus(model.table(Model.U));
        covariance = f.times(covariance).times(f.turned()).plus(model.table(Model.Q));
        predictions++;
        return predictions;
    }

    public int measure(int above, int below)
            throws IllegalArgumentException, IllegalStateException, ArithmeticException {
        if (!isFraction(above, below)) {
            throw new IllegalArgumentException();
        }
        if (!started || !model.isFit(Model.R) || measurements >= MOST_MEASUREMENTS) {
            throw new IllegalStateException();
        }
        Table hTurned = model.table(Model.H);
        Table h = hTurned.turned();
        Table hp = h.times(covariance);
        Table s = hp.times(hTurned).plus(model.table(Model.R));
        if (s.isNothing()) {
            throw new ArithmeticException();
        }
        variance = s;
        surprise = Table.ofFraction(above, below).minus(h.times(mean));
        // p is the same across its diagonal, so p h' is h p turned.
        gain = hp.turned().over(s);
        mean = mean.plus(gain.times(surprise)).shortened();
        covariance = covariance.minus(gain.times(hp)).shortened();
        measurements++;
        return measurements;
    }

    public int sign(int what, int i, int j) throws IllegalStateException, IllegalArgumentException {
        return number(what, i, j).sense();
    }

    public int pieces(int what, int i, int j, int side)
            throws IllegalStateException, IllegalArgumentException {
        return wholeOf(what, i, j, side).length();
    }

    public int piece(int what, int i, int j, int side, int k)
            throws IllegalStateException, IllegalArgumentException {
        Whole whole = wholeOf(what, i, j, side);
        if (k < 0) {
            throw new IllegalArgumentException();
        }
        return whole.digit(k);
    }

    public long scaled(int what, int i, int j, int factor)
            throws IllegalStateException, IllegalArgumentException {
        Fraction number = number(what, i, j);
        if (factor < 1 || factor > MOST_FACTOR) {
            throw new IllegalArgumentException();
        }
        return number.multipleDown(factor);
    }

    public int compare(int what, int i, int j, int above, int below)
            throws IllegalStateException, IllegalArgumentException {
        Fraction number = number(what, i, j);
        if (!isFraction(above, below)) {
            throw new IllegalArgumentException();
        }
        return number.against(above, below);
    }

    public int about(int what) {
        switch (what) {
            case 0:
                return model.size();
            case 1:
                return started ? 1 : 0;
            case 2:
                return predictions;
            case 3:
                return measurements;
            default:
                return NONE;
        }
    }

    private static boolean isFraction(int above, int below) {
        return above >= -MOST_ABOVE && above <= MOST_ABOVE && below >= 1 && below <= MOST_BELOW;
    }

    private Fraction number(int what, int i, int j) {
        boolean ofMeasurement = what >= SURPRISE && what <= GAIN;
        if (!started || (ofMeasurement && measurements == 0)) {
            throw new IllegalStateException();
        }
        if (what < MEAN || what > GAIN || !tableOf(what).has(i, j)) {
            throw new IllegalArgumentException();
        }
        return tableOf(what).number(i, j);
    }

    private Table tableOf(int what) {
        switch (what) {
            case COVARIANCE:
                return covariance;
            case SURPRISE:
                return surprise;
            case VARIANCE:
                return variance;
            case GAIN:
                return gain;
            default:
                return mean;
        }
    }

    private Whole wholeOf(int what, int i, int j, int side) {
        Fraction number = number(what, i, j);
        if (side != 0 && side != 1) {
            throw new IllegalArgumentException();
        }
        number.bringToLowestTerms();
        return side == 0 ? number.above() : number.below();
    }

    /** The told numbers, each part by its number in the document. Rows stand upright, so that j is 0. */
    private static final class Model {
        static final int M = 0;
        static final int C = 1;
        static final int F = 2;
        static final int U = 3;
        static final int Q = 4;
        static final int H = 5;
        static final int R = 6;
        private static final int PARTS = 7;

        private final int size;
        private final Part[] parts;

        Model(int size) {
            this.size = size;
            parts = new Part[PARTS];
            for (int part = 0; part < PARTS; part++) {
                int rows = part == R ? 1 : size;
                int columns = part == C || part == F || part == Q ? size : 1;
                parts[part] = new Part(rows, columns);
            }
            for (int i = 0; i < size; i++) {
                parts[C].put(i, i, 1, 1);
                parts[F].put(i, i, 1, 1);
                parts[H].put(i, 0, 1, 1);
            }
            parts[R].put(0, 0, 1, 1);
        }

        int size() {
            return size;
        }

        boolean has(int part, int i, int j) {
            return part >= 0 && part < PARTS && parts[part].has(i, j);
        }

        void put(int part, int i, int j, int above, int below) {
            parts[part].put(i, j, above, below);
            if (part == C || part == Q) {
                parts[part].put(j, i, above, below);
            }
        }

        boolean isFit(int part) {
            return parts[part].isFit();
        }

        Table table(int part) {
            return parts[part].table();
        }
    }

    /** A part of the model: a table of told fractions. */
    private static final class Part {
        private final int rows;
        private final int columns;
        private final int[] above;
        private final int[] below;

        Part(int rows, int columns) {
            this.rows = rows;
            this.columns = columns;
            above = new int[rows * columns];
            below = new int[rows * columns];
            Arrays.fill(below, 1);
        }

        boolean has(int i, int j) {
            return i >= 0 && i < rows && j >= 0 && j < columns;
        }

        void put(int i, int j, int newAbove, int newBelow) {
            above[i * columns + j] = newAbove;
            below[i * columns + j] = newBelow;
        }

        /** Of covariances and of r alone. */
        boolean isFit() {
            int last = above.length - 1;
            if (above[0] < 0 || above[last] < 0) {
                return false;
            }
            if (last == 0) {
                return true;
            }
            int product = above[0] * above[last] * below[1] * below[1];
            int square = above[1] * above[1] * below[0] * below[last];
            return product >= square;
        }

        Table table() {
            int common = commonBelow();
            Whole[] numbers = new Whole[above.length];
            for (int k = 0; k < above.length; k++) {
                numbers[k] = Whole.of(above[k] * (common / below[k]));
            }
            return new Table(rows, columns, numbers, Whole.of(common));
        }

        /** The least one, found by counting: told denominators are small enough for this plain way. */
        private int commonBelow() {
            int common = 1;
            for (int k = 0; k < below.length; k++) {
                int multiple = common;
                for (int times = 1; times < below[k] && multiple % below[k] != 0; times++) {
                    multiple += common;
                }
                common = multiple;
            }
            return common;
        }
    }

    /**
     * A table of numbers over one shared denominator above 0. Sharing it makes the steps of the filter
     * multiplications of whole numbers, with hardly a common divisor to look for.
     */
    private static final class Table {
        private final int rows;
        private final int columns;
        private final Whole[] above;
        private final Whole below;
        private final Fraction[] asked;

        Table(int rows, int columns, Whole[] above, Whole below) {
            this.rows = rows;
            this.columns = columns;
            this.above = above;
            this.below = below;
            asked = new Fraction[above.length];
        }

        static Table ofFraction(int above, int below) {
            Whole[] single = {Whole.of(above)};
            return new Table(1, 1, single, Whole.of(below));
        }

        boolean has(int i, int j) {
            return i >= 0 && i < rows && j >= 0 && j < columns;
        }

        /** Kept once made, so that reading piece by piece finds the lowest terms only once. */
        Fraction number(int i, int j) {
            int k = i * columns + j;
            if (asked[k] == null) {
                asked[k] = new Fraction(above[k], below);
            }
            return asked[k];
        }

        boolean isNothing() {
            return above[0].sense() == 0;
        }

        Table turned() {
            Whole[] numbers = new Whole[above.length];
            for (int i = 0; i < rows; i++) {
                for (int j = 0; j < columns; j++) {
                    numbers[j * rows + i] = above[i * columns + j];
                }
            }
            return new Table(columns, rows, numbers, below);
        }

        Table times(Table other) {
            Whole[] numbers = new Whole[rows * other.columns];
            for (int i = 0; i < rows; i++) {
                for (int j = 0; j < other.columns; j++) {
                    numbers[i * other.columns + j] = rowTimesColumn(i, other, j);
                }
            }
            return new Table(rows, other.columns, numbers, below.times(other.below));
        }

        private Whole rowTimesColumn(int i, Table other, int j) {
            Whole sum = above[i * columns].times(other.above[j]);
            for (int k = 1; k < columns; k++) {
                sum = sum.plus(above[i * columns + k].times(other.above[k * other.columns + j]));
            }
            return sum;
        }

        Table plus(Table other) {
            // Often one denominator is a multiple of the other: their least multiple is much shorter
            // than their product, and is found by a single division.
            Whole shared = Whole.commonDivisor(below, other.below);
            Whole widening = other.below.dividedBy(shared);
            Whole otherWidening = below.dividedBy(shared);
            Whole[] numbers = new Whole[above.length];
            for (int k = 0; k < above.length; k++) {
                numbers[k] = above[k].times(widening).plus(other.above[k].times(otherWidening));
            }
            return new Table(rows, columns, numbers, below.times(widening));
        }

        Table minus(Table other) {
            Whole[] numbers = new Whole[other.above.length];
            for (int k = 0; k < numbers.length; k++) {
                numbers[k] = other.above[k].negative();
            }
            return plus(new Table(rows, columns, numbers, other.below));
        }

        /** Divided by the one number of another table, which is above 0. */
        Table over(Table single) {
            Whole shared = Whole.commonDivisor(below, single.below);
            Whole widening = single.below.dividedBy(shared);
            Whole[] numbers = new Whole[above.length];
            for (int k = 0; k < above.length; k++) {
                numbers[k] = above[k].times(widening);
            }
            Whole newBelow = below.dividedBy(shared).times(single.above[0]);
            return new Table(rows, columns, numbers, newBelow);
        }

        /** Over the least shared denominator: else its length would double with each measurement. */
        Table shortened() {
            Whole divisor = below;
            for (int k = 0; k < above.length; k++) {
                divisor = Whole.commonDivisor(divisor, above[k]);
            }
            Whole[] numbers = new Whole[above.length];
            for (int k = 0; k < above.length; k++) {
                numbers[k] = above[k].dividedBy(divisor);
            }
            return new Table(rows, columns, numbers, below.dividedBy(divisor));
        }
    }

    /**
     * A number that is asked for. It comes to its lowest terms only when its pieces are asked for:
     * that is the dearest work, and no other answer needs it.
     */
    private static final class Fraction {
        private static final long MOST_MULTIPLE = 1000000000000000000L;

        private Whole above;
        private Whole below;
        private boolean lowest;

        Fraction(Whole above, Whole below) {
            this.above = above;
            this.below = below;
        }

        Whole above() {
            return above;
        }

        Whole below() {
            return below;
        }

        int sense() {
            return above.sense();
        }

        void bringToLowestTerms() {
            if (lowest) {
                return;
            }
            Whole divisor = Whole.commonDivisor(below, above);
            above = above.dividedBy(divisor);
            below = below.dividedBy(divisor);
            lowest = true;
        }

        int against(int otherAbove, int otherBelow) {
            Whole mine = above.times(Whole.of(otherBelow));
            Whole its = below.times(Whole.of(otherAbove));
            return mine.plus(its.negative()).sense();
        }

        long multipleDown(int factor) {
            Whole multiple = above.times(Whole.of(factor));
            if (multiple.sense() < 0) {
                // Dividing goes towards 0, and down is away from 0 here.
                multiple = multiple.plus(below.negative()).plus(Whole.of(1));
            }
            Whole down = multiple.dividedBy(below);
            if (down.sizeAgainst(Whole.of(MOST_MULTIPLE)) >= 0) {
                return down.sense() * MOST_MULTIPLE;
            }
            return down.asLong();
        }
    }

    /** A whole number of any length. Its digits are the document's pieces, the lowest one first. */
    private static final class Whole {
        static final int BITS = 16;
        static final int MASK = 0xFFFF;
        private static final int DIGITS_OF_LONG = 4;
        /** Far above what the longest numbers of the filter can need. */
        private static final int MOST_DIVISIONS = 1000000;

        private final int sense;
        private final int[] digits;
        private final int length;

        /** The digits may have zeros on top. */
        Whole(int sense, int[] digits) {
            int used = digits.length;
            while (used > 0 && digits[used - 1] == 0) {
                used--;
            }
            this.sense = used == 0 ? 0 : sense;
            this.digits = digits;
            length = used;
        }

        static Whole of(long value) {
            long left = value < 0 ? -value : value;
            int used = 0;
            for (int k = 0; k < DIGITS_OF_LONG; k++) {
                used = left >>> (BITS * k) != 0 ? k + 1 : used;
            }
            int[] digits = new int[used];
            for (int k = 0; k < used; k++) {
                digits[k] = (int) (left >>> (BITS * k)) & MASK;
            }
            return new Whole(value < 0 ? -1 : 1, digits);
        }

        int sense() {
            return sense;
        }

        int length() {
            return length;
        }

        int digit(int k) {
            return k >= 0 && k < length ? digits[k] : 0;
        }

        int[] copyOfDigits() {
            return Arrays.copyOf(digits, length);
        }

        /** Of numbers that a long can hold. */
        long asLong() {
            long value = 0;
            for (int k = 0; k < DIGITS_OF_LONG; k++) {
                value |= (long) digit(k) << (BITS * k);
            }
            return sense < 0 ? -value : value;
        }

        /** -1, 0, 1 as it is less than, like, greater than the other, both without their signs. */
        int sizeAgainst(Whole other) {
            for (int k = Math.max(length, other.length) - 1; k >= 0; k--) {
                if (digit(k) != other.digit(k)) {
                    return digit(k) < other.digit(k) ? -1 : 1;
                }
            }
            return 0;
        }

        Whole negative() {
            return new Whole(-sense, digits);
        }

        Whole plus(Whole other) {
            if (sense == 0) {
                return other;
            }
            if (other.sense == 0) {
                return this;
            }
            if (sense == other.sense) {
                return new Whole(sense, sumOfDigits(other));
            }
            return sizeAgainst(other) >= 0
                    ? new Whole(sense, differenceOfDigits(other))
                    : new Whole(other.sense, other.differenceOfDigits(this));
        }

        private int[] sumOfDigits(Whole other) {
            int[] sum = new int[Math.max(length, other.length) + 1];
            int carry = 0;
            for (int k = 0; k < sum.length; k++) {
                int digit = digit(k) + other.digit(k) + carry;
                sum[k] = digit & MASK;
                carry = digit >> BITS;
            }
            return sum;
        }

        /** The other one must not be the larger one. */
        private int[] differenceOfDigits(Whole other) {
            int[] difference = new int[length];
            int carry = 0;
            for (int k = 0; k < length; k++) {
                int digit = digit(k) - other.digit(k) + carry;
                difference[k] = digit & MASK;
                carry = digit >> BITS;
            }
            return difference;
        }

        Whole times(Whole other) {
            if (sense == 0 || other.sense == 0) {
                return new Whole(0, new int[0]);
            }
            int[] product = new int[length + other.length];
            for (int i = 0; i < length; i++) {
                long factor = digits[i];
                long carry = 0;
                for (int k = 0; k < other.length; k++) {
                    long digit = product[i + k] + factor * other.digits[k] + carry;
                    product[i + k] = (int) (digit & MASK);
                    carry = digit >> BITS;
                }
                product[i + other.length] = (int) carry;
            }
            return new Whole(sense * other.sense, product);
        }

        /** Towards 0; 0 if the divisor is 0. */
        Whole dividedBy(Whole divisor) {
            if (divisor.sense == 0 || length < divisor.length) {
                return new Whole(0, new int[0]);
            }
            int[] quotient = new int[length - divisor.length + 1];
            new Rest(this).divideBy(new Rest(divisor), quotient);
            return new Whole(sense * divisor.sense, quotient);
        }

        /** The greatest one, above 0 unless both are 0. */
        static Whole commonDivisor(Whole one, Whole other) {
            Rest divisor = new Rest(one);
            Rest rest = new Rest(other);
            int[] noQuotient = new int[0];
            for (int step = 0; step < MOST_DIVISIONS && !rest.isNothing(); step++) {
                divisor.divideBy(rest, noQuotient);
                Rest next = divisor;
                divisor = rest;
                rest = next;
            }
            return divisor.whole();
        }
    }

    /**
     * A whole number without its sign that is divided in place: a common divisor takes hundreds of
     * divisions, and new digits for each of them would fill the room.
     */
    private static final class Rest {
        private final int[] digits;
        private int length;

        Rest(Whole whole) {
            digits = whole.copyOfDigits();
            length = whole.length();
        }

        boolean isNothing() {
            return length == 0;
        }

        Whole whole() {
            return new Whole(1, digits);
        }

        /** Leaves the remainder; what fits into the quotient goes there. */
        void divideBy(Rest divisor, int[] quotient) {
            long head = divisor.head();
            if (head == 0) {
                return;
            }
            for (int place = length - divisor.length; place >= 0; place--) {
                // Two digits of the divisor and three of the rest make this guess right or one too large.
                int times = (int) (headBelow(place + divisor.length) / head);
                if (times > 0 && takesTooMuch(divisor, place, times)) {
                    giveBack(divisor, place);
                    times--;
                }
                if (place < quotient.length) {
                    quotient[place] = times;
                }
            }
            while (length > 0 && digits[length - 1] == 0) {
                length--;
            }
        }

        private int digit(int k) {
            return k >= 0 && k < length ? digits[k] : 0;
        }

        private long head() {
            return ((long) digit(length - 1) << Whole.BITS) + digit(length - 2);
        }

        private long headBelow(int top) {
            long upper = ((long) digit(top) << Whole.BITS) + digit(top - 1);
            return (upper << Whole.BITS) + digit(top - 2);
        }

        private boolean takesTooMuch(Rest divisor, int place, int times) {
            long factor = times;
            long carry = 0;
            for (int k = 0; k < divisor.length; k++) {
                long digit = digits[place + k] - factor * divisor.digits[k] + carry;
                digits[place + k] = (int) (digit & Whole.MASK);
                carry = digit >> Whole.BITS;
            }
            return carryInto(place + divisor.length, carry) < 0;
        }

        private void giveBack(Rest divisor, int place) {
            int carry = 0;
            for (int k = 0; k < divisor.length; k++) {
                int digit = digits[place + k] + divisor.digits[k] + carry;
                digits[place + k] = digit & Whole.MASK;
                carry = digit >> Whole.BITS;
            }
            carryInto(place + divisor.length, carry);
        }

        /** Above the highest digit there is only the carry itself. */
        private long carryInto(int top, long carry) {
            if (top >= length) {
                return carry;
            }
            long digit = digits[top] + carry;
            digits[top] = (int) (digit & Whole.MASK);
            return digit >> Whole.BITS;
        }
    }
}
