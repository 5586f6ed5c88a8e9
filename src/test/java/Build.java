/** Makes objects with problems in them. */
final class Build {
    private Build() {
    }

    static ConeForge problem(double[][] a, double[] b, double[] c) {
        ConeForge forge = new ConeForge();
        forge.begin(b.length, c.length);
        fill(forge, a, b, c);
        return forge;
    }

    static void fill(ConeForge forge, double[][] a, double[] b, double[] c) {
        for (int i = 0; i < b.length; i++) {
            forge.set(1, i, 0, b[i]);
            for (int j = 0; j < c.length; j++) {
                forge.set(0, i, j, a[i][j]);
            }
        }
        for (int j = 0; j < c.length; j++) {
            forge.set(2, 0, j, c[j]);
        }
    }

    /** Appends eight characters a call. */
    static int write(ConeForge forge, String text) {
        int length = forge.count(2);
        for (int from = 0; from < text.length(); from += 8) {
            long w = 0;
            for (int k = from; k < Math.min(from + 8, text.length()); k++) {
                w = w << 8 | text.charAt(k);
            }
            length = forge.text(w);
        }
        return length;
    }

    /** x0 + x1 + x2 = 4, x0 + 3 x1 + x3 = 6, the least -3 x0 - 5 x1: solved at (3, 1, 0, 0). */
    static ConeForge solvable() {
        return problem(new double[][] {{1, 1, 1, 0}, {1, 3, 0, 1}}, new double[] {4, 6},
                new double[] {-3, -5, 0, 0});
    }

    /** x0 = -2. */
    static ConeForge infeasible() {
        return problem(new double[][] {{1, 0}}, new double[] {-2}, new double[] {0, 0});
    }

    /** x0 - 4 x1 = 2, the least -x1: scaled by 1/4 and by 4 for x0. */
    static ConeForge unbounded() {
        return problem(new double[][] {{1, -4}}, new double[] {2}, new double[] {0, -1});
    }

    /** All 5 rows and 8 variables: x(i) + x5 + (i + 1) x6 - x7 = b(i). */
    static ConeForge widest() {
        double[][] a = new double[5][];
        for (int i = 0; i < 5; i++) {
            a[i] = new double[] {0, 0, 0, 0, 0, 1, i + 1, -1};
            a[i][i] = 1;
        }
        return problem(a, new double[] {2, 9, 4, 1, 7}, new double[] {1, 2, 3, 4, 5, 3, 3, 3});
    }

    /** Two rows that are the same. */
    static ConeForge singular() {
        return problem(new double[][] {{1, 1}, {1, 1}}, new double[] {1, 1}, new double[] {1, 2});
    }
}
