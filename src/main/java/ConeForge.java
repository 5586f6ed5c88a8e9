import java.util.Arrays;

/**
 * A solver of small linear programs in doubles: the least c . x with A x = b, x not below 0.
 * The order of every sum and product is part of what is promised, so it must not be rearranged.
 */
public final class ConeForge {
    private static final int MOST_ROWS = 5;
    private static final int MOST_VARIABLES = 8;
    private static final int MOST_CHARACTERS = 300;
    private static final int MOST_TURNS = 100;
    private static final int MOST_STEPS = 200;

    private static final int SOLVED = 0;
    private static final int INFEASIBLE = 1;
    private static final int UNBOUNDED = 2;
    private static final int LOST = 3;
    private static final int OUT_OF_TURNS = 4;
    private static final int SINGULAR = 5;
    private static final int PHASE_OVER = 6;

    private static final int NOWHERE = -2;

    private final Problem problem = new Problem();
    private final Scales scales = new Scales();
    private final Point point = new Point();
    private final TextReader reader = new TextReader();
    private final InteriorMethod interiorMethod = new InteriorMethod();
    private final SimplexMethod simplexMethod = new SimplexMethod();
    private boolean scalingOn = true;
    private boolean pointTold = false;
    private int latestEffort = 0;
    private int failedAt = NOWHERE;

    public ConeForge() {
    }

    public int begin(int m, int n) throws IllegalArgumentException {
        if (m < 1 || m > MOST_ROWS || n < 1 || n > MOST_VARIABLES) {
            throw new IllegalArgumentException("m is 1 to 5, n is 1 to 8");
        }
        problem.clear(m, n);
        pointTold = false;
        return m * n;
    }

    public double set(int what, int i, int j, double v)
            throws IllegalArgumentException, IndexOutOfBoundsException {
        if (what < 0 || what > 2) {
            throw new IllegalArgumentException("what is 0 to 2");
        }
        if (!isAllowed(v)) {
            throw new IllegalArgumentException("v is 0, or 1e-6 to 1000 in size");
        }
        if (what != 2) {
            requireIndex(i, problem.rows);
        }
        if (what != 1) {
            requireIndex(j, problem.variables);
        }
        pointTold = false;
        return switch (what) {
            case 0 -> exchange(problem.a[i], j, v);
            case 1 -> exchange(problem.b, i, v);
            default -> exchange(problem.c, j, v);
        };
    }

    public boolean scaling(boolean on) {
        boolean before = scalingOn;
        scalingOn = on;
        return before;
    }

    public int text(long w) throws IllegalArgumentException, IllegalStateException {
        if (!TextReader.isReadable(w)) {
            throw new IllegalArgumentException("a byte is 0, 10 or 32 to 126");
        }
        if (!reader.append(w)) {
            throw new IllegalStateException("the text has at most 300 characters");
        }
        return reader.length;
    }

    public int read() throws IllegalArgumentException {
        if (!reader.parse()) {
            failedAt = reader.failedAt;
            throw new IllegalArgumentException("the text is no problem");
        }
        failedAt = NOWHERE;
        problem.copy(reader.fresh);
        reader.length = 0;
        pointTold = false;
        return reader.numbersRead;
    }

    public int where() {
        return failedAt;
    }

    public int interior(int turns) throws IllegalArgumentException, ArithmeticException {
        if (turns < 1 || turns > MOST_TURNS) {
            throw new IllegalArgumentException("turns are 1 to 100");
        }
        scales.measure(problem, scalingOn);
        scales.apply(problem, interiorMethod.problem);
        int end = interiorMethod.solve(turns);
        latestEffort = interiorMethod.turnsBegun;
        pointTold = end != SINGULAR;
        if (end == SINGULAR) {
            throw new ArithmeticException("the matrix is singular");
        }
        scales.unscale(interiorMethod.point, point);
        return end;
    }

    public int simplex() {
        scales.measure(problem, scalingOn);
        scales.apply(problem, simplexMethod.problem);
        int end = simplexMethod.solve();
        latestEffort = simplexMethod.stepsDone;
        pointTold = true;
        scales.unscale(simplexMethod.point, point);
        return end;
    }

    public double told(int what, int j)
            throws IllegalArgumentException, IllegalStateException, IndexOutOfBoundsException {
        if (what < 0 || what > 4) {
            throw new IllegalArgumentException("what is 0 to 4");
        }
        requireTold();
        if (what <= 2) {
            requireIndex(j, what == 2 ? problem.rows : problem.variables);
        }
        return switch (what) {
            case 0 -> point.x[j];
            case 1 -> point.s[j];
            case 2 -> point.y[j];
            case 3 -> problem.costOf(point.x);
            default -> problem.worthOf(point.y);
        };
    }

    public int effort() {
        return latestEffort;
    }

    public double gap(int what) throws IllegalArgumentException, IllegalStateException {
        if (what < 0 || what > 3) {
            throw new IllegalArgumentException("what is 0 to 3");
        }
        requireTold();
        return gapOf(what);
    }

    public boolean certifies(int what, double e) throws IllegalArgumentException, IllegalStateException {
        if (what < 0 || what > 2) {
            throw new IllegalArgumentException("what is 0 to 2");
        }
        if (!(e >= 0.0 && e <= 1.0)) {
            throw new IllegalArgumentException("e is 0 to 1");
        }
        requireTold();
        return switch (what) {
            case 0 -> isSolution(e);
            case 1 -> showsNoSolution(e);
            default -> showsNoLeast(e);
        };
    }

    public int count(int what) throws IllegalArgumentException {
        if (what < 0 || what > 5) {
            throw new IllegalArgumentException("what is 0 to 5");
        }
        return switch (what) {
            case 0 -> problem.rows;
            case 1 -> problem.variables;
            case 2 -> reader.length;
            case 3 -> problem.nonZeros();
            case 4 -> scalingOn ? 1 : 0;
            default -> pointTold ? 1 : 0;
        };
    }

    public double scale(int what, int k) throws IllegalArgumentException, IndexOutOfBoundsException {
        if (what < 0 || what > 1) {
            throw new IllegalArgumentException("what is 0 or 1");
        }
        requireIndex(k, what == 0 ? problem.rows : problem.variables);
        scales.measure(problem, scalingOn);
        return what == 0 ? scales.ofRows[k] : scales.ofVariables[k];
    }

    private void requireTold() {
        if (!pointTold) {
            throw new IllegalStateException("nothing solved is told");
        }
    }

    private static void requireIndex(int index, int size) {
        if (index < 0 || index >= size) {
            throw new IndexOutOfBoundsException("no such row or variable");
        }
    }

    private double gapOf(int what) {
        return switch (what) {
            case 0 -> primalGap();
            case 1 -> dualGap();
            case 2 -> point.complementarity(problem.variables);
            default -> point.deepest(problem.variables);
        };
    }

    private double primalGap() {
        double most = 0.0;
        for (int i = 0; i < problem.rows; i++) {
            most = greater(most, absolute(problem.lessRow(problem.b[i], i, point.x)));
        }
        return most;
    }

    private double dualGap() {
        double most = 0.0;
        for (int j = 0; j < problem.variables; j++) {
            double left = problem.lessColumn(problem.c[j], j, point.y) - point.s[j];
            most = greater(most, absolute(left));
        }
        return most;
    }

    private boolean isSolution(double e) {
        double product = gapOf(2);
        return gapOf(0) <= e && gapOf(1) <= e && gapOf(3) <= e && product <= e && product >= -e;
    }

    private boolean showsNoSolution(double e) {
        for (int j = 0; j < problem.variables; j++) {
            if (problem.plusColumn(0.0, j, point.y) > e) {
                return false;
            }
        }
        return problem.worthOf(point.y) > e;
    }

    private boolean showsNoLeast(double e) {
        for (int j = 0; j < problem.variables; j++) {
            if (point.x[j] < -e) {
                return false;
            }
        }
        for (int i = 0; i < problem.rows; i++) {
            if (absolute(problem.plusRow(0.0, i, point.x)) > e) {
                return false;
            }
        }
        return problem.costOf(point.x) < -e;
    }

    /** Whether v may stand in A, b or c; written so that no comparison lets a NaN through. */
    private static boolean isAllowed(double v) {
        return v >= -1000.0 && v <= 1000.0 && (v == 0.0 || absolute(v) >= 1e-6);
    }

    private static double exchange(double[] numbers, int index, double v) {
        double before = numbers[index];
        numbers[index] = v;
        return before;
    }

    private static double absolute(double v) {
        return v < 0.0 ? -v : v;
    }

    private static double greater(double v, double w) {
        return v >= w ? v : w;
    }

    private static double greatestOf(double[] numbers, int size) {
        double most = 0.0;
        for (int k = 0; k < size; k++) {
            most = greater(most, absolute(numbers[k]));
        }
        return most;
    }

    /** The numbers of a linear program, with the sums over its rows and columns. */
    private static final class Problem {
        private int rows = 1;
        private int variables = 1;
        private final double[][] a = new double[MOST_ROWS][MOST_VARIABLES];
        private final double[] b = new double[MOST_ROWS];
        private final double[] c = new double[MOST_VARIABLES];

        private void clear(int m, int n) {
            rows = m;
            variables = n;
            for (int i = 0; i < MOST_ROWS; i++) {
                Arrays.fill(a[i], 0.0);
            }
            Arrays.fill(b, 0.0);
            Arrays.fill(c, 0.0);
        }

        private void copy(Problem other) {
            rows = other.rows;
            variables = other.variables;
            for (int i = 0; i < MOST_ROWS; i++) {
                System.arraycopy(other.a[i], 0, a[i], 0, MOST_VARIABLES);
            }
            System.arraycopy(other.b, 0, b, 0, MOST_ROWS);
            System.arraycopy(other.c, 0, c, 0, MOST_VARIABLES);
        }

        private int nonZeros() {
            int found = 0;
            for (int i = 0; i < rows; i++) {
                for (int j = 0; j < variables; j++) {
                    found += a[i][j] != 0.0 ? 1 : 0;
                }
            }
            return found;
        }

        private double plusRow(double from, int i, double[] x) {
            double sum = from;
            for (int j = 0; j < variables; j++) {
                sum = sum + a[i][j] * x[j];
            }
            return sum;
        }

        private double lessRow(double from, int i, double[] x) {
            double left = from;
            for (int j = 0; j < variables; j++) {
                left = left - a[i][j] * x[j];
            }
            return left;
        }

        private double plusColumn(double from, int j, double[] y) {
            double sum = from;
            for (int i = 0; i < rows; i++) {
                sum = sum + a[i][j] * y[i];
            }
            return sum;
        }

        private double lessColumn(double from, int j, double[] y) {
            double left = from;
            for (int i = 0; i < rows; i++) {
                left = left - a[i][j] * y[i];
            }
            return left;
        }

        private double costOf(double[] x) {
            return product(c, x, variables);
        }

        private double worthOf(double[] y) {
            return product(b, y, rows);
        }

        private static double product(double[] v, double[] w, int size) {
            double sum = 0.0;
            for (int k = 0; k < size; k++) {
                sum = sum + v[k] * w[k];
            }
            return sum;
        }
    }

    /** What a solving found: x and s by variables, y by rows. */
    private static final class Point {
        private final double[] x = new double[MOST_VARIABLES];
        private final double[] s = new double[MOST_VARIABLES];
        private final double[] y = new double[MOST_ROWS];

        private void fill(double ofVariables, double ofRows) {
            Arrays.fill(x, ofVariables);
            Arrays.fill(s, ofVariables);
            Arrays.fill(y, ofRows);
        }

        private double complementarity(int variables) {
            return Problem.product(x, s, variables);
        }

        /** How far the lowest x(j) or s(j) is below 0. */
        private double deepest(int variables) {
            double most = 0.0;
            for (int j = 0; j < variables; j++) {
                most = greater(greater(most, -x[j]), -s[j]);
            }
            return most;
        }
    }

    /** The powers of two by which a problem is scaled. */
    private static final class Scales {
        private final double[] ofRows = new double[MOST_ROWS];
        private final double[] ofVariables = new double[MOST_VARIABLES];

        private void measure(Problem problem, boolean on) {
            Arrays.fill(ofRows, 1.0);
            Arrays.fill(ofVariables, 1.0);
            if (on) {
                measureRows(problem);
                measureVariables(problem);
            }
        }

        private void measureRows(Problem problem) {
            for (int i = 0; i < problem.rows; i++) {
                ofRows[i] = powerFor(greatestOf(problem.a[i], problem.variables));
            }
        }

        private void measureVariables(Problem problem) {
            for (int j = 0; j < problem.variables; j++) {
                double most = 0.0;
                for (int i = 0; i < problem.rows; i++) {
                    most = greater(most, absolute(ofRows[i] * problem.a[i][j]));
                }
                ofVariables[j] = powerFor(most);
            }
        }

        /** Numbers of a problem are 1e-6 to 1000, so 64 halvings or doublings are more than are needed. */
        private static double powerFor(double most) {
            if (most <= 0.0) {
                return 1.0;
            }
            double limit = 1.0 / most;
            double power = 1.0;
            for (int k = 0; k < 64 && power > limit; k++) {
                power = power / 2.0;
            }
            for (int k = 0; k < 64 && power * 2.0 <= limit; k++) {
                power = power * 2.0;
            }
            return power;
        }

        private void apply(Problem from, Problem to) {
            to.clear(from.rows, from.variables);
            for (int i = 0; i < from.rows; i++) {
                for (int j = 0; j < from.variables; j++) {
                    to.a[i][j] = ofRows[i] * from.a[i][j] * ofVariables[j];
                }
                to.b[i] = ofRows[i] * from.b[i];
            }
            for (int j = 0; j < from.variables; j++) {
                to.c[j] = from.c[j] * ofVariables[j];
            }
        }

        /** Done at once behind a solving: scaling may be switched before the point is asked for. */
        private void unscale(Point from, Point to) {
            for (int j = 0; j < MOST_VARIABLES; j++) {
                to.x[j] = ofVariables[j] * from.x[j];
                to.s[j] = from.s[j] / ofVariables[j];
            }
            for (int i = 0; i < MOST_ROWS; i++) {
                to.y[i] = ofRows[i] * from.y[i];
            }
        }
    }

    /** The text and the problem read from it, kept apart from the problem in use since reading may fail. */
    private static final class TextReader {
        private static final int LINE_END = 10;

        private final char[] characters = new char[MOST_CHARACTERS];
        private final Problem fresh = new Problem();
        private int length = 0;
        private int at = 0;
        private int first = 0;
        private int digits = 0;
        private double value = 0.0;
        private int numbersRead = 0;
        private int failedAt = NOWHERE;

        private static int byteOf(long w, int place) {
            return (int) ((w >>> (56 - 8 * place)) & 255L);
        }

        private static boolean isReadable(long w) {
            for (int place = 0; place < 8; place++) {
                int code = byteOf(w, place);
                if (code != 0 && code != LINE_END && (code < 32 || code > 126)) {
                    return false;
                }
            }
            return true;
        }

        private static int charactersOf(long w) {
            int found = 0;
            for (int place = 0; place < 8; place++) {
                found += byteOf(w, place) != 0 ? 1 : 0;
            }
            return found;
        }

        private boolean append(long w) {
            if (length + charactersOf(w) > MOST_CHARACTERS) {
                return false;
            }
            for (int place = 0; place < 8; place++) {
                int code = byteOf(w, place);
                if (code != 0) {
                    characters[length] = (char) code;
                    length++;
                }
            }
            return true;
        }

        private boolean parse() {
            at = 0;
            numbersRead = 0;
            failedAt = NOWHERE;
            return parseSize() && parseList(fresh.c, fresh.variables)
                    && parseList(fresh.b, fresh.rows) && parseEntries();
        }

        private boolean parseSize() {
            if (!parseWhole(MOST_ROWS)) {
                return false;
            }
            int m = (int) value;
            if (!parseWhole(MOST_VARIABLES)) {
                return false;
            }
            fresh.clear(m, (int) value);
            return true;
        }

        private boolean parseList(double[] into, int size) {
            for (int k = 0; k < size; k++) {
                if (!parseValue()) {
                    return false;
                }
                into[k] = value;
            }
            return true;
        }

        private boolean parseEntries() {
            for (int k = 0; k < MOST_CHARACTERS && reachNumber(); k++) {
                if (!parseWhole(fresh.rows)) {
                    return false;
                }
                int i = (int) value - 1;
                if (!parseWhole(fresh.variables)) {
                    return false;
                }
                int j = (int) value - 1;
                if (!parseValue()) {
                    return false;
                }
                fresh.a[i][j] = value;
            }
            return true;
        }

        private boolean parseWhole(int most) {
            if (!parseNumber(true)) {
                return false;
            }
            return value >= 1.0 && value <= (double) most || failAt(first);
        }

        private boolean parseValue() {
            if (!parseNumber(false)) {
                return false;
            }
            return isAllowed(value) || failAt(first);
        }

        /** Where the text ends too early, at is its length, which is then what is to be told. */
        private boolean parseNumber(boolean whole) {
            reachNumber();
            first = at;
            digits = 0;
            boolean negative = !whole && skip('-');
            if (takeDigits(4) == 0) {
                return failAt(at);
            }
            double divisor = 1.0;
            if (!whole && skip('.')) {
                int places = takeDigits(3);
                if (places == 0) {
                    return failAt(at);
                }
                divisor = places == 1 ? 10.0 : places == 2 ? 100.0 : 1000.0;
            }
            if (at < length && characters[at] != ' ' && characters[at] != LINE_END) {
                return failAt(at);
            }
            double size = (double) digits / divisor;
            value = negative ? -size : size;
            numbersRead++;
            return true;
        }

        /** Passes blanks, line ends and lines that are left out: false if nothing else is there. */
        private boolean reachNumber() {
            boolean leftOut = false;
            for (; at < length; at++) {
                char c = characters[at];
                if (c == LINE_END) {
                    leftOut = false;
                } else if (c == '*' && beginsLine()) {
                    leftOut = true;
                } else if (c != ' ' && !leftOut) {
                    return true;
                }
            }
            return false;
        }

        private boolean beginsLine() {
            return at == 0 || characters[at - 1] == LINE_END;
        }

        private boolean skip(char c) {
            if (at >= length || characters[at] != c) {
                return false;
            }
            at++;
            return true;
        }

        private int takeDigits(int most) {
            int taken = 0;
            while (taken < most && at < length && characters[at] >= '0' && characters[at] <= '9') {
                digits = digits * 10 + (characters[at] - '0');
                at++;
                taken++;
            }
            return taken;
        }

        private boolean failAt(int character) {
            failedAt = character;
            return false;
        }
    }

    /** A symmetric matrix as L D L', the ones of L's diagonal left out. */
    private static final class FactoredMatrix {
        private final double[][] entries = new double[MOST_ROWS][MOST_ROWS];
        private final double[][] lower = new double[MOST_ROWS][MOST_ROWS];
        private final double[] diagonal = new double[MOST_ROWS];
        private final double[] middle = new double[MOST_ROWS];

        /** Fills the entries with the sums of A(i,j) * h(j) * A(k,j). */
        private void gather(Problem problem, double[] h) {
            for (int i = 0; i < problem.rows; i++) {
                for (int k = 0; k <= i; k++) {
                    double sum = 0.0;
                    for (int j = 0; j < problem.variables; j++) {
                        sum = sum + problem.a[i][j] * h[j] * problem.a[k][j];
                    }
                    entries[i][k] = sum;
                }
            }
        }

        /** False if the matrix is singular. */
        private boolean factor(int size) {
            for (int k = 0; k < size; k++) {
                for (int l = 0; l < k; l++) {
                    lower[k][l] = reduced(k, l) / diagonal[l];
                }
                diagonal[k] = reduced(k, k);
                if (diagonal[k] <= 1e-13) {
                    return false;
                }
            }
            return true;
        }

        private double reduced(int k, int l) {
            double w = entries[k][l];
            for (int q = 0; q < l; q++) {
                w = w - lower[k][q] * diagonal[q] * lower[l][q];
            }
            return w;
        }

        /** The division by D waits until the last row: the rows before it need z undivided. */
        private void solve(double[] right, double[] into, int size) {
            for (int i = 0; i < size; i++) {
                double z = right[i];
                for (int q = 0; q < i; q++) {
                    z = z - lower[i][q] * middle[q];
                }
                middle[i] = z;
            }
            for (int i = size - 1; i >= 0; i--) {
                double z = middle[i] / diagonal[i];
                for (int q = i + 1; q < size; q++) {
                    z = z - lower[q][i] * into[q];
                }
                into[i] = z;
            }
        }
    }

    /** The interior method on scaled numbers of its own; names of one letter are the document's. */
    private static final class InteriorMethod {
        private final Problem problem = new Problem();
        private final Point point = new Point();
        private final FactoredMatrix matrix = new FactoredMatrix();
        private final double[] p = new double[MOST_ROWS];
        private final double[] d = new double[MOST_VARIABLES];
        private final double[] h = new double[MOST_VARIABLES];
        private final double[] f = new double[MOST_VARIABLES];
        private final double[] r = new double[MOST_ROWS];
        private final double[] stepOfX = new double[MOST_VARIABLES];
        private final double[] stepOfS = new double[MOST_VARIABLES];
        private final double[] stepOfY = new double[MOST_ROWS];
        private double g = 0.0;
        private int turnsBegun = 0;

        private int solve(int turns) {
            point.fill(1.0, 0.0);
            turnsBegun = 0;
            for (int turn = 0; turn < turns; turn++) {
                turnsBegun++;
                measure();
                if (isSolved()) {
                    return SOLVED;
                }
                if (isLost()) {
                    return LOST;
                }
                if (!findStep()) {
                    return SINGULAR;
                }
                goStep();
            }
            return OUT_OF_TURNS;
        }

        private void measure() {
            for (int i = 0; i < problem.rows; i++) {
                p[i] = problem.lessRow(problem.b[i], i, point.x);
            }
            for (int j = 0; j < problem.variables; j++) {
                d[j] = problem.lessColumn(problem.c[j], j, point.y) - point.s[j];
            }
            g = point.complementarity(problem.variables);
        }

        private boolean isSolved() {
            int m = problem.rows;
            int n = problem.variables;
            double v = absolute(problem.costOf(point.x));
            return greatestOf(p, m) <= 1e-8 * (1.0 + greatestOf(problem.b, m))
                    && greatestOf(d, n) <= 1e-8 * (1.0 + greatestOf(problem.c, n))
                    && g <= 1e-8 * (1.0 + v);
        }

        private boolean isLost() {
            for (int j = 0; j < problem.variables; j++) {
                if (isOutside(point.x[j]) || isOutside(point.s[j])) {
                    return true;
                }
            }
            return greatestOf(point.y, problem.rows) > 1e9;
        }

        private static boolean isOutside(double v) {
            return v > 1e9 || v < 1e-12;
        }

        /** False if the matrix is singular. */
        private boolean findStep() {
            double u = 0.1 * (g / (double) problem.variables);
            for (int j = 0; j < problem.variables; j++) {
                h[j] = point.x[j] / point.s[j];
                f[j] = point.x[j] - u / point.s[j] + h[j] * d[j];
            }
            for (int i = 0; i < problem.rows; i++) {
                r[i] = problem.plusRow(p[i], i, f);
            }
            matrix.gather(problem, h);
            if (!matrix.factor(problem.rows)) {
                return false;
            }
            matrix.solve(r, stepOfY, problem.rows);
            for (int j = 0; j < problem.variables; j++) {
                stepOfS[j] = problem.lessColumn(d[j], j, stepOfY);
                stepOfX[j] = u / point.s[j] - point.x[j] - h[j] * stepOfS[j];
            }
            return true;
        }

        private void goStep() {
            double a = longest(point.x, stepOfX);
            double e = longest(point.s, stepOfS);
            for (int j = 0; j < problem.variables; j++) {
                point.x[j] = point.x[j] + a * stepOfX[j];
                point.s[j] = point.s[j] + e * stepOfS[j];
            }
            for (int i = 0; i < problem.rows; i++) {
                point.y[i] = point.y[i] + e * stepOfY[i];
            }
        }

        /** How much of the step may be gone with every number staying above 0. */
        private double longest(double[] from, double[] step) {
            double least = 1.0;
            for (int j = 0; j < problem.variables; j++) {
                if (step[j] < 0.0) {
                    double share = 0.995 * (from[j] / -step[j]);
                    least = share < least ? share : least;
                }
            }
            return least;
        }
    }

    /** The simplex method on scaled numbers of its own; the last columns of its table, one a row, begin as the basis. */
    private static final class SimplexMethod {
        private final Problem problem = new Problem();
        private final Point point = new Point();
        private final double[][] table = new double[MOST_ROWS][MOST_VARIABLES + MOST_ROWS];
        private final double[] right = new double[MOST_ROWS];
        private final double[] cost = new double[MOST_VARIABLES + MOST_ROWS];
        private final int[] basic = new int[MOST_ROWS];
        private int rows = 1;
        private int variables = 1;
        private int columns = 2;
        private int stepsDone = 0;

        private int solve() {
            point.fill(0.0, 0.0);
            stepsDone = 0;
            fillTable();
            setCosts(false);
            int end = runPhase(false);
            if (end != PHASE_OVER) {
                return end;
            }
            if (costOfBasis() > 1e-7) {
                tellPrices();
                return INFEASIBLE;
            }
            setCosts(true);
            end = runPhase(true);
            if (end != PHASE_OVER) {
                return end;
            }
            tellSolution();
            return SOLVED;
        }

        private void fillTable() {
            rows = problem.rows;
            variables = problem.variables;
            columns = variables + rows;
            for (int i = 0; i < rows; i++) {
                double sign = signOf(i);
                for (int j = 0; j < variables; j++) {
                    table[i][j] = problem.a[i][j] * sign;
                }
                for (int k = 0; k < rows; k++) {
                    table[i][variables + k] = k == i ? 1.0 : 0.0;
                }
                right[i] = problem.b[i] * sign;
                basic[i] = variables + i;
            }
        }

        /** -1 for a row that is turned round. */
        private double signOf(int i) {
            return problem.b[i] < 0.0 ? -1.0 : 1.0;
        }

        private void setCosts(boolean second) {
            for (int j = 0; j < columns; j++) {
                if (second) {
                    cost[j] = j < variables ? problem.c[j] : 0.0;
                } else {
                    cost[j] = j < variables ? 0.0 : 1.0;
                }
            }
        }

        private int runPhase(boolean second) {
            for (int k = 0; k <= MOST_STEPS; k++) {
                int column = incoming();
                if (column < 0) {
                    return PHASE_OVER;
                }
                int row = outgoing(column, second);
                if (row < 0) {
                    tellRay(column);
                    return UNBOUNDED;
                }
                if (stepsDone >= MOST_STEPS) {
                    return LOST;
                }
                pivot(row, column);
                stepsDone++;
                if (isOvergrown()) {
                    return LOST;
                }
            }
            return LOST;
        }

        /** The least column that would lower the cost, or -1. */
        private int incoming() {
            for (int j = 0; j < variables; j++) {
                double q = cost[j];
                for (int i = 0; i < rows; i++) {
                    q = q - cost[basic[i]] * table[i][j];
                }
                if (q < -1e-9) {
                    return j;
                }
            }
            return -1;
        }

        private int outgoing(int column, boolean second) {
            int row = second ? leftover(column) : -1;
            return row >= 0 ? row : tightest(column);
        }

        /** In phase 2 a basic column from phase 1 must not grow again, so it goes first. */
        private int leftover(int column) {
            for (int i = 0; i < rows; i++) {
                if (basic[i] >= variables && absolute(table[i][column]) > 1e-9) {
                    return i;
                }
            }
            return -1;
        }

        private int tightest(int column) {
            int best = -1;
            double least = 0.0;
            for (int i = 0; i < rows; i++) {
                if (table[i][column] > 1e-9) {
                    double ratio = right[i] / table[i][column];
                    if (best < 0 || ratio < least || ratio == least && basic[i] < basic[best]) {
                        best = i;
                        least = ratio;
                    }
                }
            }
            return best;
        }

        private void pivot(int row, int column) {
            double divisor = table[row][column];
            for (int j = 0; j < columns; j++) {
                table[row][j] = table[row][j] / divisor;
            }
            right[row] = right[row] / divisor;
            for (int k = 0; k < rows; k++) {
                if (k != row) {
                    takeAway(k, row, table[k][column]);
                }
            }
            basic[row] = column;
        }

        private void takeAway(int from, int row, double times) {
            for (int j = 0; j < columns; j++) {
                table[from][j] = table[from][j] - times * table[row][j];
            }
            right[from] = right[from] - times * right[row];
        }

        private boolean isOvergrown() {
            for (int i = 0; i < rows; i++) {
                if (greatestOf(table[i], columns) > 1e12) {
                    return true;
                }
            }
            return greatestOf(right, rows) > 1e12;
        }

        private double costOfBasis() {
            double sum = 0.0;
            for (int i = 0; i < rows; i++) {
                sum = sum + cost[basic[i]] * right[i];
            }
            return sum;
        }

        private void tellPrices() {
            for (int i = 0; i < rows; i++) {
                double sum = 0.0;
                for (int k = 0; k < rows; k++) {
                    sum = sum + cost[basic[k]] * table[k][variables + i];
                }
                point.y[i] = sum * signOf(i);
            }
        }

        private void tellSolution() {
            for (int i = 0; i < rows; i++) {
                if (basic[i] < variables) {
                    point.x[basic[i]] = right[i];
                }
            }
            tellPrices();
            for (int j = 0; j < variables; j++) {
                point.s[j] = problem.lessColumn(problem.c[j], j, point.y);
            }
        }

        private void tellRay(int column) {
            point.x[column] = 1.0;
            for (int i = 0; i < rows; i++) {
                if (basic[i] < variables) {
                    point.x[basic[i]] = -table[i][column];
                }
            }
        }
    }
}
