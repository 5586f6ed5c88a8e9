public final class Promise15ScaleTest {
    public static void main(String[] args) {
        Check check = new Check();
        thrown(check);
        allSizes(check);
        powers(check);
        columns(check);
        asScalingIs(check);
        check.end();
    }

    private static void thrown(Check check) {
        ConeForge forge = new ConeForge();
        forge.begin(2, 3);
        int[] whats = {-1, 2, Integer.MAX_VALUE, Integer.MIN_VALUE};
        for (int what : whats) {
            check.fails("what " + what, IllegalArgumentException.class, () -> forge.scale(what, 0));
            check.fails("what first " + what, IllegalArgumentException.class, () -> forge.scale(what, 99));
        }
        int[] wrong = {-1, 3, 5, 8, Integer.MAX_VALUE, Integer.MIN_VALUE};
        for (int k : wrong) {
            check.fails("R(" + k + ")", IndexOutOfBoundsException.class, () -> forge.scale(0, k));
            check.fails("S(" + k + ")", IndexOutOfBoundsException.class, () -> forge.scale(1, k));
        }
        check.fails("R(2)", IndexOutOfBoundsException.class, () -> forge.scale(0, 2));
        check.same("R(1) of zeros", forge.scale(0, 1), 1.0);
        check.same("S(2) of zeros", forge.scale(1, 2), 1.0);
    }

    /** The last R and S of each size, and the one behind it. */
    private static void allSizes(Check check) {
        for (int m = 1; m <= 5; m++) {
            for (int n = 1; n <= 8; n++) {
                ConeForge forge = new ConeForge();
                forge.begin(m, n);
                forge.set(0, m - 1, n - 1, 1000.0);
                String size = " of " + m + " and " + n;
                check.same("last R" + size, forge.scale(0, m - 1), 1.0 / 1024.0);
                check.same("last S" + size, forge.scale(1, n - 1), 1.0);
                check.same("first R" + size, forge.scale(0, 0), m == 1 ? 1.0 / 1024.0 : 1.0);
                final int rows = m;
                final int variables = n;
                check.fails("R(m)" + size, IndexOutOfBoundsException.class, () -> forge.scale(0, rows));
                check.fails("S(n)" + size, IndexOutOfBoundsException.class, () -> forge.scale(1, variables));
            }
        }
    }

    private static void powers(Check check) {
        double[] numbers = {1.0, 2.0, 3.0, 4.0, 1000.0, 0.5, 0.75, 0.25, 1e-6, -8.0, -0.125, Math.nextUp(1.0),
            Math.nextDown(1.0), Math.nextUp(0.25), Math.nextDown(0.25), 1.0 / 3.0};
        double[] due = {1.0, 0.5, 0.25, 0.25, 1.0 / 1024.0, 2.0, 1.0, 4.0, 524288.0, 0.125, 8.0, 0.5,
            1.0, 2.0, 4.0, 2.0};
        for (int k = 0; k < numbers.length; k++) {
            ConeForge forge = new ConeForge();
            forge.set(0, 0, 0, numbers[k]);
            check.same("R for " + numbers[k], forge.scale(0, 0), due[k]);
            check.same("S for " + numbers[k], forge.scale(1, 0), 1.0);
        }
    }

    /** Rows with 8 and 0.5 are scaled by 1/8 and 2; then the columns have 1, 1/16, 0.75 and 0. */
    private static void columns(Check check) {
        ConeForge forge = Build.problem(new double[][] {{-8, 0.5, 6, 0}, {0.5, 0, 0, 0}}, new double[] {100, 100},
                new double[] {100, 100, 100, 100});
        check.same("R(0)", forge.scale(0, 0), 0.125);
        check.same("R(1)", forge.scale(0, 1), 2.0);
        check.same("S(0)", forge.scale(1, 0), 1.0);
        check.same("S(1)", forge.scale(1, 1), 16.0);
        check.same("S(2)", forge.scale(1, 2), 1.0);
        check.same("S(3)", forge.scale(1, 3), 1.0);
        ConeForge wide = Build.problem(new double[][] {{1000, 1e-6}}, new double[] {1}, new double[] {1, 1});
        check.same("S of the least number in the widest row", wide.scale(1, 1), 536870912.0);
    }

    private static void asScalingIs(Check check) {
        ConeForge forge = new ConeForge();
        forge.set(0, 0, 0, 4.0);
        forge.simplex();
        check.same("on", forge.scale(0, 0), 0.25);
        forge.scaling(false);
        check.same("off", forge.scale(0, 0), 1.0);
        forge.set(0, 0, 0, 16.0);
        forge.scaling(true);
        check.same("of the numbers as they are", forge.scale(0, 0), 0.0625);
        check.same("it solves nothing", forge.count(5), 0);
    }
}
