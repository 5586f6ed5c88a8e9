import java.util.Random;

/** Promises 8 to 13 and 15 on many made problems, against the document's terms written out a second time. */
public final class PlainCompareTest {
    private static final int PROBLEMS = 6000;
    private static final double[] ENDS = {0.0, 1.0, 1e-9, 1e-6, 0.25};
    private static final int[] seen = new int[6];
    private static final int[] seenSimplex = new int[4];

    public static void main(String[] args) {
        Check check = new Check();
        Random random = new Random(20261115L);
        for (int k = 0; k < PROBLEMS; k++) {
            compare(check, random, k);
        }
        for (int end : new int[] {0, 3, 4, 5}) {
            check.same("interior end " + end + " was met", seen[end] > 0, true);
        }
        for (int end = 0; end < 3; end++) {
            check.same("simplex end " + end + " was met", seenSimplex[end] > 0, true);
        }
        check.end();
    }

    private static void compare(Check check, Random random, int number) {
        int m = 1 + random.nextInt(5);
        int n = 1 + random.nextInt(8);
        int kind = random.nextInt(6);
        double[][] a = new double[m][n];
        double[] b = new double[m];
        double[] c = new double[n];
        for (int i = 0; i < m; i++) {
            for (int j = 0; j < n; j++) {
                a[i][j] = made(random, kind);
            }
            b[i] = made(random, kind);
        }
        for (int j = 0; j < n; j++) {
            c[j] = made(random, kind);
        }
        if (kind == 1 || kind == 4) {
            makeSolvable(random, a, b, c);
        }
        if (kind == 5 && m > 1) {
            a[m - 1] = a[0].clone();
            b[m - 1] = b[0];
        }
        boolean on = random.nextBoolean();
        ConeForge forge = Build.problem(a, b, c);
        forge.scaling(on);
        Plain plain = new Plain(a, b, c, on);
        String name = "problem " + number + " (kind " + kind + ") ";
        scales(check, name, forge, plain);
        int end = forge.simplex();
        seenSimplex[end]++;
        check.same(name + "simplex", end, plain.simplex());
        told(check, name + "simplex ", forge, plain);
        int turns = random.nextBoolean() ? 100 : 1 + random.nextInt(12);
        interior(check, name, forge, plain, turns);
    }

    private static double made(Random random, int kind) {
        switch (kind) {
            case 0:
                return random.nextInt(7) - 3;
            case 1:
                return (random.nextInt(4001) - 2000) / 1000.0;
            case 2:
                return random.nextInt(3) == 0 ? 0.0 : random.nextInt(21) / 4.0;
            case 3:
                double size = Math.pow(10.0, random.nextInt(9) - 6) * (1.0 + random.nextDouble() * 8.0);
                return random.nextInt(4) == 0 ? 0.0 : random.nextBoolean() ? size : -size;
            case 4:
                return random.nextDouble() * 20.0 - 10.0;
            default:
                return random.nextInt(5) - 1;
        }
    }

    /** b = A x with some x above 0, c = A y + s with some s above 0, as far as set takes them. */
    private static void makeSolvable(Random random, double[][] a, double[] b, double[] c) {
        for (int i = 0; i < b.length; i++) {
            b[i] = 0.0;
        }
        for (int j = 0; j < c.length; j++) {
            double x = random.nextInt(4);
            c[j] = random.nextInt(4);
            for (int i = 0; i < b.length; i++) {
                b[i] += a[i][j] * x;
                c[j] += a[i][j] * (i % 2 == 0 ? 1.5 : -0.5);
            }
        }
        for (int i = 0; i < b.length; i++) {
            b[i] = Math.abs(b[i]) < 1e-6 ? 0.0 : b[i];
        }
        for (int j = 0; j < c.length; j++) {
            c[j] = Math.abs(c[j]) < 1e-6 ? 0.0 : c[j];
        }
    }

    private static void scales(Check check, String name, ConeForge forge, Plain plain) {
        for (int i = 0; i < plain.m; i++) {
            check.same(name + "R(" + i + ")", forge.scale(0, i), plain.R[i]);
        }
        for (int j = 0; j < plain.n; j++) {
            check.same(name + "S(" + j + ")", forge.scale(1, j), plain.S[j]);
        }
    }

    private static void interior(Check check, String name, ConeForge forge, Plain plain, int turns) {
        int end;
        try {
            end = forge.interior(turns);
        } catch (ArithmeticException e) {
            end = -1;
        }
        seen[end < 0 ? 5 : end]++;
        check.same(name + "interior", end, plain.interior(turns));
        if (end >= 0) {
            told(check, name + "interior ", forge, plain);
        } else {
            check.same(name + "effort", forge.effort(), plain.effort);
            check.same(name + "count(5)", forge.count(5), 0);
        }
    }

    private static void told(Check check, String name, ConeForge forge, Plain plain) {
        check.same(name + "effort", forge.effort(), plain.effort);
        check.same(name + "count(5)", forge.count(5), 1);
        for (int j = 0; j < plain.n; j++) {
            check.same(name + "x(" + j + ")", forge.told(0, j), plain.x[j]);
            check.same(name + "s(" + j + ")", forge.told(1, j), plain.s[j]);
        }
        for (int i = 0; i < plain.m; i++) {
            check.same(name + "y(" + i + ")", forge.told(2, i), plain.y[i]);
        }
        check.same(name + "c . x", forge.told(3, -1), plain.cost());
        check.same(name + "b . y", forge.told(4, 99), plain.worth());
        for (int what = 0; what < 4; what++) {
            check.same(name + "gap(" + what + ")", forge.gap(what), plain.gap(what));
        }
        for (int what = 0; what < 3; what++) {
            for (double e : ENDS) {
                check.same(name + "certifies(" + what + ", " + e + ")", forge.certifies(what, e),
                        plain.certifies(what, e));
            }
        }
    }
}
