public final class Promise08InteriorTest {
    public static void main(String[] args) {
        Check check = new Check();
        solved(check);
        turns(check);
        lost(check);
        singular(check);
        singularEdge(check);
        startsAnew(check);
        widest(check);
        check.end();
    }

    private static void solved(Check check) {
        ConeForge forge = Build.solvable();
        check.same("interior(60)", forge.interior(60), 0);
        check.same("turns begun", forge.effort(), 9);
        check.same("x(0)", forge.told(0, 0), 2.999999999041449);
        check.same("c . x", forge.told(3, 0), -13.999999992331588);
        check.same("gap(0)", forge.gap(0), 4.931684494835694E-16);
        check.same("gap(1)", forge.gap(1), 1.5304632012821067E-16);
        check.same("gap(2)", forge.gap(2), 1.5336818049701066E-8);
    }

    private static void turns(Check check) {
        int[] wrong = {0, -1, 101, Integer.MAX_VALUE, Integer.MIN_VALUE};
        ConeForge forge = Build.solvable();
        forge.simplex();
        for (int turns : wrong) {
            check.fails("interior(" + turns + ")", IllegalArgumentException.class, () -> forge.interior(turns));
            check.same("told behind it", forge.told(0, 0), 3.0);
            check.same("effort behind it", forge.effort(), 2);
        }
        ConeForge empty = new ConeForge();
        check.fails("wrong turns before singular", IllegalArgumentException.class, () -> empty.interior(101));
        for (int turns = 1; turns <= 8; turns++) {
            check.same("interior(" + turns + ")", forge.interior(turns), 4);
            check.same("turns begun", forge.effort(), turns);
            check.same("told", forge.count(5), 1);
        }
        check.same("interior(9)", forge.interior(9), 0);
        check.same("interior(100)", forge.interior(100), 0);
        check.same("turns begun", forge.effort(), 9);
        forge.scaling(false);
        check.same("interior(2)", forge.interior(2), 4);
        check.same("gap(2) behind two turns", forge.gap(2), 0.2570804047577262);
    }

    private static void lost(Check check) {
        ConeForge forge = Build.problem(new double[][] {{1, 0}}, new double[] {2}, new double[] {0, -1});
        check.same("interior(100)", forge.interior(100), 3);
        check.same("told", forge.count(5), 1);
        boolean far = false;
        for (int j = 0; j < 2; j++) {
            far |= forge.told(0, j) > 1e9 || forge.told(1, j) > 1e9;
            far |= forge.told(0, j) < 1e-12 || forge.told(1, j) < 1e-12;
        }
        check.same("some number is out of bounds", far, true);
        int turns = forge.effort();
        check.same("one turn fewer", forge.interior(turns - 1), 4);
        check.same("just as many", forge.interior(turns), 3);
    }

    private static void singular(Check check) {
        ConeForge forge = Build.singular();
        forge.simplex();
        check.fails("interior", ArithmeticException.class, () -> forge.interior(50));
        check.same("turns begun", forge.effort(), 1);
        check.same("told no more", forge.count(5), 0);
        check.fails("told", IllegalStateException.class, () -> forge.told(0, 0));
        check.fails("gap", IllegalStateException.class, () -> forge.gap(0));
        check.same("simplex", forge.simplex(), 0);
        check.same("told again", forge.count(5), 1);
        ConeForge later = Build.infeasible();
        check.fails("interior on infeasible", ArithmeticException.class, () -> later.interior(100));
        check.same("turns begun before it", later.effort(), 4);
        check.same("told while there are fewer turns", later.interior(3), 4);
    }

    /** With scaling off and one number the matrix is a * a at first: 1e-12 is fine, 0 is not. */
    private static void singularEdge(Check check) {
        ConeForge small = Build.problem(new double[][] {{1e-6}}, new double[] {1}, new double[] {1});
        small.scaling(false);
        check.same("M above 1e-13", small.interior(1), 4);
        ConeForge none = Build.problem(new double[][] {{0}}, new double[] {1}, new double[] {1});
        check.fails("M is 0", ArithmeticException.class, () -> none.interior(1));
    }

    /** All 5 rows and 8 variables: x is (1.75, 8.5, 3.25, 0, 5.75, 0, 0.25, 0). */
    private static void widest(Check check) {
        ConeForge forge = Build.widest();
        check.same("interior(100)", forge.interior(100), 0);
        check.same("turns begun", forge.effort(), 11);
        check.same("its certificate", forge.certifies(0, 1e-5), true);
        double[] x = {1.75, 8.5, 3.25, 0, 5.75, 0, 0.25, 0};
        double[] s = {0, 0, 0, 13, 0, 1, 0, 5};
        double[] y = {1, 2, 3, -9, 5};
        for (int j = 0; j < 8; j++) {
            check.same("x(" + j + ")", Math.abs(forge.told(0, j) - x[j]) < 1e-6, true);
            check.same("s(" + j + ")", Math.abs(forge.told(1, j) - s[j]) < 1e-6, true);
        }
        for (int i = 0; i < 5; i++) {
            check.same("y(" + i + ")", Math.abs(forge.told(2, i) - y[i]) < 1e-6, true);
        }
    }

    private static void startsAnew(Check check) {
        ConeForge forge = Build.solvable();
        forge.interior(3);
        double once = forge.told(0, 0);
        forge.interior(3);
        check.same("the same calls, the same answers", forge.told(0, 0), once);
        forge.begin(1, 1);
        Build.fill(forge, new double[][] {{4}}, new double[] {2}, new double[] {1});
        ConeForge fresh = Build.problem(new double[][] {{4}}, new double[] {2}, new double[] {1});
        check.same("a used object", forge.interior(100), fresh.interior(100));
        check.same("x(0)", forge.told(0, 0), fresh.told(0, 0));
        check.same("y(0)", forge.told(2, 0), fresh.told(2, 0));
    }
}
