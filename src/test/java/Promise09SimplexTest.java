public final class Promise09SimplexTest {
    public static void main(String[] args) {
        Check check = new Check();
        solved(check);
        ties(check);
        infeasible(check);
        almostFeasible(check);
        unbounded(check);
        leftovers(check);
        lostByGrowth(check);
        growthEdge(check);
        lostBySteps(check);
        unboundedInPhaseOne(check);
        smallLeftovers(check);
        widest(check);
        usedBefore(check);
        check.end();
    }

    private static void solved(Check check) {
        ConeForge forge = Build.solvable();
        check.same("simplex", forge.simplex(), 0);
        double[] x = {3, 1, 0, 0};
        double[] s = {0, 0, 2, 1};
        double[] y = {-2, -1};
        told(check, "solvable", forge, x, s, y);
        check.same("steps", forge.effort(), 2);
        check.same("a new object", new ConeForge().simplex(), 0);
    }

    private static void told(Check check, String name, ConeForge forge, double[] x, double[] s, double[] y) {
        for (int j = 0; j < x.length; j++) {
            check.same(name + " x(" + j + ")", forge.told(0, j), x[j]);
            check.same(name + " s(" + j + ")", forge.told(1, j), s[j]);
        }
        for (int i = 0; i < y.length; i++) {
            check.same(name + " y(" + i + ")", forge.told(2, i), y[i]);
        }
    }

    /** Beale's problem, on which a rule of the steepest column goes round for ever. */
    private static void ties(Check check) {
        ConeForge forge = Build.problem(
                new double[][] {{0.25, -60, -0.04, 9, 1, 0, 0}, {0.5, -90, -0.02, 3, 0, 1, 0}, {0, 0, 1, 0, 0, 0, 1}},
                new double[] {0, 0, 1}, new double[] {-0.75, 150, -0.02, 6, 0, 0, 0});
        check.same("Beale's problem", forge.simplex(), 0);
        check.same("its certificate", forge.certifies(0, 1e-12), true);
        check.same("its least", Math.abs(forge.told(3, 0) + 0.05) < 1e-12, true);
        ConeForge same = Build.problem(new double[][] {{1, 1, 0}, {1, 0, 1}}, new double[] {2, 2},
                new double[] {0, 0, 0});
        check.same("a tie", same.simplex(), 0);
        check.same("steps of the tie", same.effort(), 2);
        told(check, "tie", same, new double[] {2, 0, 0}, new double[3], new double[2]);
    }

    private static void infeasible(Check check) {
        ConeForge forge = Build.infeasible();
        check.same("simplex", forge.simplex(), 1);
        told(check, "infeasible", forge, new double[2], new double[2], new double[] {-1});
        check.same("b . y", forge.told(4, 0), 2.0);
        ConeForge scaled = Build.problem(new double[][] {{4, 8}, {0, 0}}, new double[] {-2, 3}, new double[] {1, 1});
        check.same("scaled", scaled.simplex(), 1);
        told(check, "scaled", scaled, new double[2], new double[2], new double[] {-0.125, 1});
        ConeForge zero = Build.problem(new double[][] {{0}}, new double[] {1e-6}, new double[] {0});
        check.same("0 = 1e-6", zero.simplex(), 1);
    }

    /** 1000 x = -1e-6: w is 1e-6 unscaled, but below 1e-7 scaled. */
    private static void almostFeasible(Check check) {
        ConeForge forge = Build.problem(new double[][] {{1000}}, new double[] {-1e-6}, new double[] {-1});
        check.same("scaled", forge.simplex(), 0);
        check.same("the leftover went out", forge.told(0, 0), -(1e-6 / 1000.0));
        check.same("steps", forge.effort(), 1);
        forge.scaling(false);
        check.same("unscaled", forge.simplex(), 1);
        check.same("y", forge.told(2, 0), -1.0);
        check.same("no step", forge.effort(), 0);
        ConeForge above = Build.problem(new double[][] {{8}}, new double[] {-1e-6}, new double[] {0});
        check.same("w is 1.25e-7", above.simplex(), 1);
        ConeForge below = Build.problem(new double[][] {{16}}, new double[] {-1e-6}, new double[] {0});
        check.same("w is 6.25e-8", below.simplex(), 0);
    }

    private static void unbounded(Check check) {
        ConeForge forge = Build.unbounded();
        check.same("simplex", forge.simplex(), 2);
        told(check, "ray", forge, new double[] {4, 1}, new double[2], new double[1]);
        check.same("steps", forge.effort(), 1);
        ConeForge scaled = Build.problem(new double[][] {{8, -8, -1}}, new double[] {2}, new double[] {3, 1, -2});
        check.same("with S(2) = 8", scaled.simplex(), 2);
        told(check, "scaled ray", scaled, new double[] {1, 0, 8}, new double[3], new double[1]);
    }

    /** A column of phase 1 stays basic: it goes out first, whatever the sign of its number. */
    private static void leftovers(Check check) {
        ConeForge minus = Build.problem(new double[][] {{-1, -1}}, new double[] {0}, new double[] {-1, 0});
        check.same("-x0 - x1 = 0", minus.simplex(), 0);
        told(check, "minus", minus, new double[2], new double[] {0, 1}, new double[] {1});
        ConeForge twice = Build.singular();
        check.same("the same row twice", twice.simplex(), 0);
        told(check, "twice", twice, new double[] {1, 0}, new double[] {0, 1}, new double[] {1, 0});
    }

    private static void lostByGrowth(Check check) {
        double[][] a = {{1000, 1000, 1e-6}, {0, -1000, -1e-6}, {-1e-6, -1000, 0}, {-1000, -1e-6, 1000},
            {-1e-6, 1000, -1e-6}};
        double[] b = {0, 1e-6, 0, 1000, 0};
        ConeForge forge = Build.problem(a, b, new double[3]);
        forge.scaling(false);
        check.same("grown above 1e12", forge.simplex(), 3);
        check.same("steps", forge.effort(), 1);
        check.same("told", forge.count(5), 1);
        told(check, "grown", forge, new double[3], new double[3], new double[5]);
        check.same("c . x", forge.told(3, 0), 0.0);
        check.same("b . y", forge.told(4, 0), 0.0);
    }

    /** Behind the step by 1e-6 the table has a -1e12, which is not above 1e12, and then one more than that. */
    private static void growthEdge(Check check) {
        ConeForge forge = Build.problem(new double[][] {{1e-6, 1000}, {1000, 0}}, new double[2], new double[2]);
        forge.scaling(false);
        check.same("1e12 in the table", forge.simplex(), 0);
        check.same("steps", forge.effort(), 1);
        forge.set(0, 1, 1, -1.0);
        check.same("1e12 + 1 in the table", forge.simplex(), 3);
        check.same("steps", forge.effort(), 1);
        ConeForge right = Build.problem(new double[][] {{1e-6, 1, 0}, {-1000, 0, 1}}, new double[] {1000, 0},
                new double[] {-1, 0, 0});
        right.scaling(false);
        check.same("1e12 in b", right.simplex(), 0);
        check.same("x(2)", right.told(0, 2), 1e12);
        right.set(1, 1, 0, 1.0);
        check.same("1e12 + 1 in b", right.simplex(), 3);
        check.same("steps", right.effort(), 3);
    }

    private static void lostBySteps(Check check) {
        double[][] a = {{-1000, 0, 1000, 0, -1e-6, 1e-6}, {0, -1000, 0, 0, 1000, 0}, {1000, 0, 0, 0, 0, 1000},
            {0, 0, -1000, -1e-6, 0, 1e-6}};
        double[] b = {-1e-6, -1000, 0, -1000};
        double[] c = {1e-6, -1000, -1e-6, 0, 1000, 1e-6};
        ConeForge forge = Build.problem(a, b, c);
        forge.scaling(false);
        check.same("a 201st step", forge.simplex(), 3);
        check.same("steps", forge.effort(), 200);
        told(check, "round and round", forge, new double[6], new double[6], new double[4]);
    }

    /** Four rows with 8e-10 each let x1 come in, but none of them is above 1e-9. */
    private static void unboundedInPhaseOne(Check check) {
        double[][] a = {{1000, -0.8}, {1e-6, 0}, {1e-6, 0}, {1e-6, 0}, {1e-6, 0}};
        ConeForge forge = Build.problem(a, new double[] {0, 1, 1, 1, 1}, new double[] {1, 1});
        forge.scaling(false);
        check.same("no row goes out", forge.simplex(), 2);
        check.same("steps", forge.effort(), 1);
        told(check, "ray", forge, new double[] {0.8 / 1000.0, 1}, new double[2], new double[5]);
    }

    /** The leftover's number is 4.9e-9, so it goes out, or 9.8e-10, so it stays. */
    private static void smallLeftovers(Check check) {
        double[] b = {-1e-6, 0};
        ConeForge out = Build.problem(new double[][] {{5e-6, 0, 1000}, {1, 1, 0}}, b, new double[] {-5, -1, 0});
        check.same("above 1e-9", out.simplex(), 0);
        check.same("x(0) is about -0.2", out.told(0, 0) < -0.19 && out.told(0, 0) > -0.21, true);
        ConeForge stays = Build.problem(new double[][] {{1e-6, 0, 1000}, {1, 1, 0}}, b, new double[] {-1, -5, 0});
        check.same("not above 1e-9", stays.simplex(), 0);
        check.same("steps", stays.effort(), 2);
        check.same("x(1)", stays.told(0, 1), 0.0);
        check.same("x(2)", stays.told(0, 2), 0.0);
        check.same("y(1)", stays.told(2, 1), -5.0);
    }

    /** With 8 variables the leftovers of all rows stay basic. */
    private static void widest(Check check) {
        ConeForge forge = new ConeForge();
        forge.begin(5, 8);
        check.same("nothing but zeros", forge.simplex(), 0);
        told(check, "zeros", forge, new double[8], new double[8], new double[5]);
        forge.set(2, 0, 7, -1.0);
        check.same("the last one is free", forge.simplex(), 2);
        told(check, "free", forge, new double[] {0, 0, 0, 0, 0, 0, 0, 1}, new double[8], new double[5]);
        ConeForge solved = Build.widest();
        check.same("5 rows and 8 variables", solved.simplex(), 0);
        told(check, "widest", solved, new double[] {1.75, 8.5, 3.25, 0, 5.75, 0, 0.25, 0},
                new double[] {0, 0, 0, 13, 0, 1, 0, 5}, new double[] {1, 2, 3, -9, 5});
    }

    private static void usedBefore(Check check) {
        ConeForge forge = Build.solvable();
        forge.simplex();
        forge.set(1, 0, 0, -4.0);
        check.same("solved, then infeasible", forge.simplex(), 1);
        told(check, "infeasible behind solved", forge, new double[4], new double[4],
                new double[] {forge.told(2, 0), forge.told(2, 1)});
        check.same("its certificate", forge.certifies(1, 0.0), true);
        forge.set(1, 0, 0, 4.0);
        forge.simplex();
        forge.set(0, 0, 1, -1.0);
        forge.set(0, 1, 1, -3.0);
        check.same("solved, then unbounded", forge.simplex(), 2);
        check.same("s(2)", forge.told(1, 2), 0.0);
        check.same("y(0)", forge.told(2, 0), 0.0);
        check.same("y(1)", forge.told(2, 1), 0.0);
        check.same("its certificate", forge.certifies(2, 0.0), true);
    }
}
