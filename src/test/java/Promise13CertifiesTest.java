public final class Promise13CertifiesTest {
    private static final double BELOW_ONE = Math.nextDown(1.0);

    public static void main(String[] args) {
        Check check = new Check();
        thrown(check);
        solutions(check);
        productBelow(check);
        noSolution(check);
        noLeast(check);
        noLeastBelow(check);
        firstAndLast(check);
        check.end();
    }

    private static void thrown(Check check) {
        ConeForge forge = Build.solvable();
        int[] whats = {-1, 3, Integer.MAX_VALUE, Integer.MIN_VALUE};
        double[] ends = {-Double.MIN_VALUE, Math.nextUp(1.0), -1.0, 2.0, Double.NaN, Double.POSITIVE_INFINITY,
            Double.NEGATIVE_INFINITY};
        for (int round = 0; round < 2; round++) {
            for (int what : whats) {
                check.fails("what " + what, IllegalArgumentException.class, () -> forge.certifies(what, 0.5));
            }
            for (double e : ends) {
                for (int what = 0; what < 3; what++) {
                    final int w = what;
                    check.fails("e " + e, IllegalArgumentException.class, () -> forge.certifies(w, e));
                }
            }
            if (round == 0) {
                check.fails("nothing solved", IllegalStateException.class, () -> forge.certifies(0, 0.0));
                check.fails("nothing solved", IllegalStateException.class, () -> forge.certifies(2, 1.0));
                forge.simplex();
            }
        }
        check.same("e = -0.0", forge.certifies(0, -0.0), true);
        forge.begin(1, 1);
        check.fails("behind begin", IllegalStateException.class, () -> forge.certifies(1, 0.0));
    }

    private static void solutions(Check check) {
        ConeForge forge = Build.solvable();
        forge.simplex();
        check.same("solved, e = 0", forge.certifies(0, 0.0), true);
        check.same("no proof that there is none", forge.certifies(1, 0.0), false);
        check.same("no ray", forge.certifies(2, 0.0), false);
        forge.interior(60);
        check.same("interior, e = 0", forge.certifies(0, 0.0), false);
        check.same("interior, e below gap(2)", forge.certifies(0, 1e-8), false);
        check.same("interior, e = gap(2)", forge.certifies(0, forge.gap(2)), true);
        ConeForge ray = Build.problem(new double[][] {{1, 0}}, new double[] {1}, new double[] {0, -0.5});
        ray.simplex();
        check.same("gap(0) is 1", ray.certifies(0, BELOW_ONE), false);
        check.same("gap(0) is 1, e too", ray.certifies(0, 1.0), true);
        ConeForge costly = Build.problem(new double[][] {{1, 0}}, new double[] {0.5}, new double[] {0, -1});
        costly.simplex();
        check.same("gap(1) is 1", costly.certifies(0, BELOW_ONE), false);
        check.same("gap(1) is 1, e too", costly.certifies(0, 1.0), true);
        ConeForge below = Build.problem(new double[][] {{1000}}, new double[] {-1e-6}, new double[] {-1});
        below.simplex();
        double deep = below.gap(3);
        check.same("gap(0) is less than gap(3)", below.gap(0) < deep, true);
        check.same("gap(3) above e", below.certifies(0, Math.nextDown(deep)), false);
        check.same("gap(3) is e", below.certifies(0, deep), true);
    }

    /** "gap 2 not above e and not below -e": 5 x0 = 851 is solved with an s(0) that is a little below 0. */
    private static void productBelow(Check check) {
        ConeForge forge = Build.problem(new double[][] {{5}}, new double[] {851}, new double[] {3});
        check.same("simplex", forge.simplex(), 0);
        double product = forge.gap(2);
        check.same("gap(2)", product, -7.558398351648065E-14);
        check.same("gap(3) is less", forge.gap(3) < -product, true);
        check.same("gap(2) is -e", forge.certifies(0, -product), true);
        check.same("gap(2) below -e", forge.certifies(0, Math.nextDown(-product)), false);
        check.same("gap(2) far below -e", forge.certifies(0, 0.0), false);
        check.same("gap(2) far above -e", forge.certifies(0, 1.0), true);
    }

    private static void noSolution(Check check) {
        ConeForge forge = Build.infeasible();
        forge.simplex();
        check.same("b . y = 2", forge.certifies(1, 1.0), true);
        check.same("no solution", forge.certifies(0, 1.0), false);
        ConeForge one = Build.problem(new double[][] {{1}}, new double[] {-1}, new double[] {0});
        one.simplex();
        check.same("b . y = 1 is not above 1", one.certifies(1, 1.0), false);
        check.same("b . y = 1 is above less", one.certifies(1, BELOW_ONE), true);
        ConeForge solved = Build.problem(new double[][] {{1, 0}}, new double[] {3}, new double[] {1, 1});
        solved.simplex();
        check.same("A . y = 1 is not above 1", solved.certifies(1, 1.0), true);
        check.same("A . y = 1 is above less", solved.certifies(1, BELOW_ONE), false);
        ConeForge second = Build.problem(new double[][] {{1, 2}}, new double[] {3}, new double[] {0.5, 1});
        second.simplex();
        check.same("the last column counts", second.certifies(1, BELOW_ONE), false);
    }

    private static void noLeast(Check check) {
        ConeForge ray = Build.unbounded();
        ray.simplex();
        check.same("a ray, e = 0", ray.certifies(2, 0.0), true);
        check.same("c . x = -1 is below less", ray.certifies(2, BELOW_ONE), true);
        check.same("c . x = -1 is not below -1", ray.certifies(2, 1.0), false);
        ConeForge solved = Build.problem(new double[][] {{1}}, new double[] {1}, new double[] {-3});
        solved.simplex();
        check.same("|A x| = 1 is not above 1", solved.certifies(2, 1.0), true);
        check.same("|A x| = 1 is above less", solved.certifies(2, BELOW_ONE), false);
        ConeForge turned = Build.problem(new double[][] {{0}, {-1}}, new double[] {0, -1}, new double[] {-3});
        turned.simplex();
        check.same("|A x| = |-1| is not above 1", turned.certifies(2, 1.0), true);
        check.same("|A x| = |-1| is above less", turned.certifies(2, BELOW_ONE), false);
    }

    /** With 5 rows and 8 variables: it is the first or the last column, or row, that is 1, so not above 1 alone. */
    private static void firstAndLast(Check check) {
        for (int j = 0; j < 8; j += 7) {
            ConeForge none = new ConeForge();
            none.begin(5, 8);
            for (int i = 0; i < 5; i++) {
                none.set(1, i, 0, 3.0);
            }
            none.set(0, 4, j, 2.0);
            none.set(2, 0, j, 2.0);
            none.set(1, 4, 0, 4.0);
            check.same("simplex", none.simplex(), 1);
            check.same("no column above 0", none.certifies(1, 0.0), true);
            for (int i = 0; i < 4; i++) {
                none.set(1, i, 0, 0.0);
            }
            check.same("simplex", none.simplex(), 0);
            check.same("column " + j + " is 2", none.certifies(1, 1.0), false);
            none.set(0, 4, j, 1.0);
            none.set(2, 0, j, 1.0);
            check.same("simplex", none.simplex(), 0);
            check.same("column " + j + " is 1", none.certifies(1, 1.0), true);
            check.same("column " + j + " is above less", none.certifies(1, BELOW_ONE), false);
        }
        for (int i = 0; i < 5; i += 4) {
            ConeForge ray = new ConeForge();
            ray.begin(5, 8);
            ray.set(0, i, 7, 1.0);
            ray.set(1, i, 0, 1.0);
            ray.set(2, 0, 7, -9.0);
            check.same("simplex", ray.simplex(), 0);
            check.same("row " + i + " is 1", ray.certifies(2, 1.0), true);
            check.same("row " + i + " is above less", ray.certifies(2, BELOW_ONE), false);
        }
    }

    /** A leftover of phase 1 with a small number goes out: x(0) is about -0.001, x(1) about 0.001, x(3) 0.0001. */
    private static void noLeastBelow(Check check) {
        double[][] a = {{0.001, 0, 1000, 0}, {1, 1, 0, 0}, {0, 0, 0, 1}};
        ConeForge forge = Build.problem(a, new double[] {-1e-6, 0, 1e-4}, new double[] {-5, -1, 0, -1000});
        check.same("simplex", forge.simplex(), 0);
        check.same("x(0) is below 0", forge.told(0, 0) < -0.0009, true);
        double deep = -forge.told(0, 0);
        check.same("x(0) below -e", forge.certifies(2, Math.nextDown(deep)), false);
        check.same("x(0) is -e", forge.certifies(2, deep), true);
        check.same("x(0) above -e", forge.certifies(2, 0.002), true);
    }
}
