import java.math.BigInteger;

/**
 * The document once more, written with the Java library and without regard to room or speed:
 * every number is a fraction in lowest terms of its own, and all formulas stand as the document says them.
 */
final class PlainFilter {
    /** A fraction in lowest terms. */
    static final class Exact {
        final BigInteger above;
        final BigInteger below;

        Exact(BigInteger above, BigInteger below) {
            BigInteger divisor = above.gcd(below);
            if (below.signum() < 0) {
                divisor = divisor.negate();
            }
            this.above = above.divide(divisor);
            this.below = below.divide(divisor);
        }

        static Exact of(long above, long below) {
            return new Exact(BigInteger.valueOf(above), BigInteger.valueOf(below));
        }

        Exact plus(Exact o) {
            return new Exact(above.multiply(o.below).add(o.above.multiply(below)), below.multiply(o.below));
        }

        Exact minus(Exact o) {
            return new Exact(above.multiply(o.below).subtract(o.above.multiply(below)), below.multiply(o.below));
        }

        Exact times(Exact o) {
            return new Exact(above.multiply(o.above), below.multiply(o.below));
        }

        Exact over(Exact o) {
            return new Exact(above.multiply(o.below), below.multiply(o.above));
        }

        int sign() {
            return above.signum();
        }

        BigInteger down(BigInteger factor) {
            BigInteger[] parts = above.multiply(factor).divideAndRemainder(below);
            return parts[1].signum() < 0 ? parts[0].subtract(BigInteger.ONE) : parts[0];
        }
    }

    private static final Exact ZERO = Exact.of(0, 1);
    private static final Exact ONE = Exact.of(1, 1);
    private static final BigInteger LIMIT = BigInteger.TEN.pow(18);

    private int size;
    private Exact[] m;
    private Exact[][] c;
    private Exact[][] f;
    private Exact[] u;
    private Exact[][] q;
    private Exact[] h;
    private Exact r;
    private boolean started;
    private int starts;
    private int predictions;
    private int measurements;
    private Exact[] x;
    private Exact[][] p;
    private Exact y;
    private Exact s;
    private Exact[] k;

    PlainFilter() {
        begin(1);
    }

    void begin(int newSize) {
        argument(newSize == 1 || newSize == 2);
        size = newSize;
        m = row(ZERO);
        c = diagonal(ONE);
        f = diagonal(ONE);
        u = row(ZERO);
        q = diagonal(ZERO);
        h = row(ONE);
        r = ONE;
        started = false;
    }

    void set(int part, int i, int j, int above, int below) {
        argument(part >= 0 && part <= 6);
        boolean table = part == 1 || part == 2 || part == 4;
        argument(i >= 0 && i < (part == 6 ? 1 : size));
        argument(j >= 0 && j < (table ? size : 1));
        told(above, below);
        Exact value = Exact.of(above, below);
        switch (part) {
            case 0 -> m[i] = value;
            case 1 -> c[i][j] = c[j][i] = value;
            case 2 -> f[i][j] = value;
            case 3 -> u[i] = value;
            case 4 -> q[i][j] = q[j][i] = value;
            case 5 -> h[i] = value;
            default -> r = value;
        }
    }

    void start() {
        state(fit(c) && starts < 24);
        starts++;
        started = true;
        predictions = 0;
        measurements = 0;
        x = m.clone();
        p = copy(c);
    }

    int predict() {
        state(started && fit(q) && predictions < 4);
        Exact[] newX = row(ZERO);
        Exact[][] newP = diagonal(ZERO);
        for (int i = 0; i < size; i++) {
            newX[i] = u[i];
            for (int a = 0; a < size; a++) {
                newX[i] = newX[i].plus(f[i][a].times(x[a]));
            }
            for (int j = 0; j < size; j++) {
                newP[i][j] = q[i][j];
                for (int a = 0; a < size; a++) {
                    for (int b = 0; b < size; b++) {
                        newP[i][j] = newP[i][j].plus(f[i][a].times(p[a][b]).times(f[j][b]));
                    }
                }
            }
        }
        x = newX;
        p = newP;
        return ++predictions;
    }

    int measure(int above, int below) {
        told(above, below);
        state(started && r.sign() >= 0 && measurements < 3);
        Exact[] ph = row(ZERO);
        Exact newS = r;
        Exact newY = Exact.of(above, below);
        for (int i = 0; i < size; i++) {
            for (int j = 0; j < size; j++) {
                ph[i] = ph[i].plus(p[i][j].times(h[j]));
            }
            newS = newS.plus(h[i].times(ph[i]));
            newY = newY.minus(h[i].times(x[i]));
        }
        if (newS.sign() == 0) {
            throw new ArithmeticException();
        }
        y = newY;
        s = newS;
        k = row(ZERO);
        Exact[][] newP = diagonal(ZERO);
        for (int i = 0; i < size; i++) {
            k[i] = ph[i].over(s);
            x[i] = x[i].plus(k[i].times(y));
            for (int j = 0; j < size; j++) {
                Exact hp = ZERO;
                for (int a = 0; a < size; a++) {
                    hp = hp.plus(h[a].times(p[a][j]));
                }
                newP[i][j] = p[i][j].minus(k[i].times(hp));
            }
        }
        p = newP;
        return ++measurements;
    }

    int sign(int what, int i, int j) {
        return number(what, i, j).sign();
    }

    int pieces(int what, int i, int j, int side) {
        return (side(what, i, j, side).bitLength() + 15) / 16;
    }

    int piece(int what, int i, int j, int side, int at) {
        BigInteger whole = side(what, i, j, side);
        argument(at >= 0);
        if (at > 10000) {
            return 0;
        }
        return whole.shiftRight(16 * at).intValue() & 0xFFFF;
    }

    long scaled(int what, int i, int j, int factor) {
        Exact number = number(what, i, j);
        argument(factor >= 1 && factor <= 1000000);
        return number.down(BigInteger.valueOf(factor)).min(LIMIT).max(LIMIT.negate()).longValueExact();
    }

    int compare(int what, int i, int j, int above, int below) {
        Exact number = number(what, i, j);
        told(above, below);
        return number.minus(Exact.of(above, below)).sign();
    }

    int about(int what) {
        return switch (what) {
            case 0 -> size;
            case 1 -> started ? 1 : 0;
            case 2 -> started ? predictions : 0;
            case 3 -> started ? measurements : 0;
            default -> -1;
        };
    }

    private BigInteger side(int what, int i, int j, int side) {
        Exact number = number(what, i, j);
        argument(side == 0 || side == 1);
        return side == 0 ? number.above.abs() : number.below;
    }

    private Exact number(int what, int i, int j) {
        state(started && (what < 2 || what > 4 || measurements > 0));
        argument(what >= 0 && what <= 4);
        argument(i >= 0 && i < (what == 2 || what == 3 ? 1 : size));
        argument(j >= 0 && j < (what == 1 ? size : 1));
        return switch (what) {
            case 0 -> x[i];
            case 1 -> p[i][j];
            case 2 -> y;
            case 3 -> s;
            default -> k[i];
        };
    }

    private boolean fit(Exact[][] table) {
        for (int i = 0; i < size; i++) {
            if (table[i][i].sign() < 0) {
                return false;
            }
        }
        return size == 1
                || table[0][0].times(table[1][1]).minus(table[0][1].times(table[0][1])).sign() >= 0;
    }

    private Exact[] row(Exact value) {
        Exact[] row = new Exact[size];
        java.util.Arrays.fill(row, value);
        return row;
    }

    private Exact[][] diagonal(Exact value) {
        Exact[][] table = new Exact[size][];
        for (int i = 0; i < size; i++) {
            table[i] = row(ZERO);
            table[i][i] = value;
        }
        return table;
    }

    private Exact[][] copy(Exact[][] table) {
        Exact[][] copy = new Exact[size][];
        for (int i = 0; i < size; i++) {
            copy[i] = table[i].clone();
        }
        return copy;
    }

    private static void told(int above, int below) {
        argument(above >= -20 && above <= 20 && below >= 1 && below <= 20);
    }

    private static void argument(boolean right) {
        if (!right) {
            throw new IllegalArgumentException();
        }
    }

    private static void state(boolean right) {
        if (!right) {
            throw new IllegalStateException();
        }
    }
}
