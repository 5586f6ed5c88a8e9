public final class Promise12GapTest {
    public static void main(String[] args) {
        Check check = new Check();
        thrown(check);
        solved(check);
        rays(check);
        below(check);
        firstAndLast(check);
        check.end();
    }

    private static void thrown(Check check) {
        ConeForge forge = Build.solvable();
        int[] whats = {-1, 4, Integer.MAX_VALUE, Integer.MIN_VALUE};
        for (int what : whats) {
            check.fails("gap(" + what + ") unsolved", IllegalArgumentException.class, () -> forge.gap(what));
        }
        for (int what = 0; what < 4; what++) {
            final int w = what;
            check.fails("gap(" + w + ") unsolved", IllegalStateException.class, () -> forge.gap(w));
        }
        forge.simplex();
        for (int what : whats) {
            check.fails("gap(" + what + ")", IllegalArgumentException.class, () -> forge.gap(what));
        }
        forge.set(0, 0, 0, 1.0);
        check.fails("gap behind set", IllegalStateException.class, () -> forge.gap(0));
    }

    private static void solved(Check check) {
        ConeForge forge = Build.solvable();
        forge.simplex();
        for (int what = 0; what < 4; what++) {
            check.same("gap(" + what + ")", forge.gap(what), 0.0);
        }
        forge.scaling(false);
        forge.interior(2);
        check.same("gap(2) behind two turns", forge.gap(2), 0.2570804047577262);
        check.same("gap(3) of numbers above 0", forge.gap(3), 0.0);
    }

    /** x = (4, 1), y and s 0, with 1 x0 - 4 x1 = 2 and c = (0, -1). */
    private static void rays(Check check) {
        ConeForge ray = Build.unbounded();
        ray.simplex();
        check.same("gap(0) of a ray", ray.gap(0), 2.0);
        check.same("gap(1) of a ray", ray.gap(1), 1.0);
        check.same("gap(2) of a ray", ray.gap(2), 0.0);
        check.same("gap(3) of a ray", ray.gap(3), 0.0);
        ConeForge none = Build.problem(new double[][] {{4, 8}, {0, 0}}, new double[] {-2, 3}, new double[] {1, -5});
        none.simplex();
        check.same("gap(0), x being 0", none.gap(0), 3.0);
        check.same("gap(1), y being (-1/8, 1)", none.gap(1), 4.0);
    }

    /** With 5 rows and 8 variables of zeros, be the greatest the first or the last, above 0 or below it. */
    private static void firstAndLast(Check check) {
        for (int sign = -1; sign <= 1; sign += 2) {
            for (int i = 0; i < 5; i += 4) {
                ConeForge none = new ConeForge();
                none.begin(5, 8);
                none.set(1, 2, 0, 1.0);
                none.set(1, i, 0, sign * 7.0);
                check.same("simplex", none.simplex(), 1);
                check.same("gap(0), b(" + i + ") being " + sign * 7, none.gap(0), 7.0);
                check.same("gap(1), all being 0", none.gap(1), 0.0);
            }
            for (int j = 0; j < 8; j += 7) {
                ConeForge ray = new ConeForge();
                ray.begin(5, 8);
                ray.set(2, 0, 3, -1.0);
                ray.set(2, 0, j, sign * 7.0);
                check.same("simplex", ray.simplex(), 2);
                check.same("gap(1), c(" + j + ") being " + sign * 7, ray.gap(1), 7.0);
                check.same("gap(0), all being 0", ray.gap(0), 0.0);
                check.same("gap(2), s being 0", ray.gap(2), 0.0);
                check.same("gap(3), none being below 0", ray.gap(3), 0.0);
            }
        }
    }

    private static void below(Check check) {
        ConeForge forge = Build.problem(new double[][] {{1000}}, new double[] {-1e-6}, new double[] {-1});
        forge.simplex();
        check.same("x(0) is below 0", forge.gap(3), 1e-6 / 1000.0);
    }
}
