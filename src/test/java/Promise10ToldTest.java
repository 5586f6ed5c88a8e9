public final class Promise10ToldTest {
    public static void main(String[] args) {
        Check check = new Check();
        unsolved(check);
        indices(check);
        allSizes(check);
        forgotten(check);
        unscaled(check);
        check.end();
    }

    private static void unsolved(Check check) {
        ConeForge forge = Build.solvable();
        for (int what = 0; what <= 4; what++) {
            final int w = what;
            check.fails("nothing solved", IllegalStateException.class, () -> forge.told(w, 0));
            check.fails("state before index", IllegalStateException.class, () -> forge.told(w, 99));
        }
        int[] whats = {-1, 5, Integer.MAX_VALUE, Integer.MIN_VALUE};
        for (int what : whats) {
            check.fails("what before state", IllegalArgumentException.class, () -> forge.told(what, 0));
        }
        forge.simplex();
        for (int what : whats) {
            check.fails("what", IllegalArgumentException.class, () -> forge.told(what, 99));
        }
    }

    private static void indices(Check check) {
        ConeForge forge = Build.solvable();
        forge.simplex();
        int[] wrong = {-1, 4, 5, 8, Integer.MAX_VALUE, Integer.MIN_VALUE};
        for (int j : wrong) {
            check.fails("x(" + j + ")", IndexOutOfBoundsException.class, () -> forge.told(0, j));
            check.fails("s(" + j + ")", IndexOutOfBoundsException.class, () -> forge.told(1, j));
            check.fails("y(" + j + ")", IndexOutOfBoundsException.class, () -> forge.told(2, j));
            check.same("c . x looks at no j", forge.told(3, j), -14.0);
            check.same("b . y looks at no j", forge.told(4, j), -14.0);
        }
        check.fails("y(2)", IndexOutOfBoundsException.class, () -> forge.told(2, 2));
        check.same("x(3)", forge.told(0, 3), 0.0);
        check.same("s(3)", forge.told(1, 3), 1.0);
        check.same("y(1)", forge.told(2, 1), -1.0);
        ConeForge tall = Build.problem(new double[][] {{1}, {1}, {0}}, new double[] {1, 1, 0}, new double[] {1});
        tall.simplex();
        check.same("y(2) of a tall one", tall.told(2, 2), 0.0);
        check.fails("x(1) of a tall one", IndexOutOfBoundsException.class, () -> tall.told(0, 1));
    }

    /** The last x, s and y of each size, and the one behind it. */
    private static void allSizes(Check check) {
        for (int m = 1; m <= 5; m++) {
            for (int n = 1; n <= 8; n++) {
                ConeForge forge = new ConeForge();
                forge.begin(m, n);
                forge.set(0, m - 1, n - 1, 1.0);
                forge.set(1, m - 1, 0, 3.0);
                forge.set(2, 0, n - 1, 2.0);
                forge.simplex();
                String size = " of " + m + " and " + n;
                check.same("last x" + size, forge.told(0, n - 1), 3.0);
                check.same("last s" + size, forge.told(1, n - 1), 0.0);
                check.same("last y" + size, forge.told(2, m - 1), 2.0);
                check.same("c . x" + size, forge.told(3, n), 6.0);
                check.same("b . y" + size, forge.told(4, m), 6.0);
                final int rows = m;
                final int variables = n;
                check.fails("x(n)" + size, IndexOutOfBoundsException.class, () -> forge.told(0, variables));
                check.fails("s(n)" + size, IndexOutOfBoundsException.class, () -> forge.told(1, variables));
                check.fails("y(m)" + size, IndexOutOfBoundsException.class, () -> forge.told(2, rows));
                check.same("told behind them" + size, forge.count(5), 1);
            }
        }
    }

    private static void forgotten(Check check) {
        ConeForge forge = Build.solvable();
        forge.simplex();
        forge.begin(2, 4);
        check.fails("behind begin", IllegalStateException.class, () -> forge.told(0, 0));
        Build.fill(forge, new double[][] {{1, 0, 0, 0}, {0, 1, 0, 0}}, new double[] {1, 2}, new double[4]);
        forge.simplex();
        forge.scaling(false);
        forge.text(49L);
        check.fails("read", IllegalArgumentException.class, forge::read);
        check.fails("begin(0, 0)", IllegalArgumentException.class, () -> forge.begin(0, 0));
        check.fails("set", IllegalArgumentException.class, () -> forge.set(3, 0, 0, 0.0));
        check.same("still told", forge.told(0, 1), 2.0);
        forge.set(2, 0, 0, 0.0);
        check.fails("behind set", IllegalStateException.class, () -> forge.told(3, 0));
        forge.simplex();
        Build.write(forge, " 1 5 7");
        forge.read();
        check.fails("behind read", IllegalStateException.class, () -> forge.told(4, 0));
    }

    /** 4 x0 + 8 x1 = 16 is scaled by 1/8, and x0 by 2. */
    private static void unscaled(Check check) {
        ConeForge forge = Build.problem(new double[][] {{4, 8}}, new double[] {16}, new double[] {1, 3});
        check.same("simplex", forge.simplex(), 0);
        check.same("x(0)", forge.told(0, 0), 4.0);
        check.same("x(1)", forge.told(0, 1), 0.0);
        check.same("s(0)", forge.told(1, 0), 0.0);
        check.same("s(1)", forge.told(1, 1), 1.0);
        check.same("y(0)", forge.told(2, 0), 0.25);
        check.same("c . x", forge.told(3, 0), 4.0);
        check.same("b . y", forge.told(4, 0), 4.0);
        forge.interior(100);
        check.same("s(0) of the interior method", forge.told(1, 0) < 1e-6, true);
        check.same("s(1) of the interior method", Math.abs(forge.told(1, 1) - 1.0) < 1e-6, true);
        check.same("y(0) of the interior method", Math.abs(forge.told(2, 0) - 0.25) < 1e-6, true);
    }
}
