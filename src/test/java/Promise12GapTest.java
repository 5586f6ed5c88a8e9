public final class Promise12GapTest {
    public static void main(String[] args) {
        Check check = new Check();
        thrown(check);
        solved(check);
        rays(check);
        below(check);
        check.end();
    }

    private static void thrown(Check check) {
        ConeForge forge = Build.solvable();
        int[] whats = {-1, 4, Integer.MAX_VALUE, Integer.MIN_VALUE};
        for (int what : whats) {
            check.fails("gap(" + what + ") unsolved", IllegalArgumentException.class, () -> forge.gap(what));
        }
        for (int what = 0; what < 4; what++) {
            final int w = what;
            check.fails("gap(" + w + ") unsolved", IllegalStateException.class, () -> forge.gap(w));
        }
        forge.simplex();
        for (int what : whats) {
            check.fails("gap(" + what + ")", IllegalArgumentException.class, () -> forge.gap(what));
        }
        forge.set(0, 0, 0, 1.0);
        check.fails("gap behind set", IllegalStateException.class, () -> forge.gap(0));
    }

    private static void solved(Check check) {
        ConeForge forge = Build.solvable();
        forge.simplex();
        for (int what = 0; what < 4; what++) {
            check.same("gap(" + what + ")", forge.gap(what), 0.0);
        }
        forge.scaling(false);
        forge.interior(2);
        check.same("gap(2) behind two turns", forge.gap(2), 0.2570804047577262);
        check.same("gap(3) of numbers above 0", forge.gap(3), 0.0);
    }

    /** x = (4, 1), y and s 0, with 1 x0 - 4 x1 = 2 and c = (0, -1). */
    private static void rays(Check check) {
        ConeForge ray = Build.unbounded();
        ray.simplex();
        check.same("gap(0) of a ray", ray.gap(0), 2.0);
        check.same("gap(1) of a ray", ray.gap(1), 1.0);
        check.same("gap(2) of a ray", ray.gap(2), 0.0);
        check.same("gap(3) of a ray", ray.gap(3), 0.0);
        ConeForge none = Build.problem(new double[][] {{4, 8}, {0, 0}}, new double[] {-2, 3}, new double[] {1, -5});
        none.simplex();
        check.same("gap(0), x being 0", none.gap(0), 3.0);
        check.same("gap(1), y being (-1/8, 1)", none.gap(1), 4.0);
    }

    private static void below(Check check) {
        ConeForge forge = Build.problem(new double[][] {{1000}}, new double[] {-1e-6}, new double[] {-1});
        forge.simplex();
        check.same("x(0) is below 0", forge.gap(3), 1e-6 / 1000.0);
    }
}
