/** The limits of the simplex method to the last bit, and the rules by which it chooses where several would do. */
public final class Promise09LimitsTest {
    /** A row with 1000 in it is scaled by 1/1024, which makes 1e-9 of this number, and the next double of the next. */
    private static final double SMALL = 1.024e-6;
    private static final double MORE = Math.nextUp(SMALL);

    public static void main(String[] args) {
        Check check = new Check();
        turnedRound(check);
        comesInPhaseOne(check);
        comesInPhaseTwo(check);
        goesOut(check);
        goesOutPhaseOne(check);
        leftoverGoesOut(check);
        infeasible(check);
        leastColumn(check);
        leastRatio(check);
        leastBasic(check);
        leastLeftover(check);
        leftoverFirst(check);
        steps(check);
        unboundedBehindSteps(check);
        grown(check);
        check.end();
    }

    private static void ends(Check check, String name, ConeForge forge, int due, int steps) {
        check.same(name, forge.simplex(), due);
        check.same(name + ", steps", forge.effort(), steps);
        check.same(name + ", told", forge.count(5), 1);
    }

    private static void tells(Check check, String name, ConeForge forge, double[] x, double[] s, double[] y) {
        for (int j = 0; j < x.length; j++) {
            check.same(name + ", x(" + j + ")", forge.told(0, j), x[j]);
            check.same(name + ", s(" + j + ")", forge.told(1, j), s[j]);
        }
        for (int i = 0; i < y.length; i++) {
            check.same(name + ", y(" + i + ")", forge.told(2, i), y[i]);
        }
    }

    /** "ROWS with b(i) below 0 turned round": a zero is not below 0, be it written -0.0 or not. */
    private static void turnedRound(Check check) {
        double[] b = {0.0, -0.0, 1e-6, -1e-6};
        int[] steps = {1, 1, 1, 0};
        for (int k = 0; k < b.length; k++) {
            ConeForge forge = Build.problem(new double[][] {{1}}, new double[] {b[k]}, new double[] {0});
            ends(check, "x0 = " + b[k], forge, k < 3 ? 0 : 1, steps[k]);
        }
        ConeForge read = new ConeForge();
        Build.write(read, "1 1 0 -0 1 1 1");
        read.read();
        ends(check, "x0 = -0 as it was read", read, 0, 1);
        ConeForge turned = Build.problem(new double[][] {{-1, -2}}, new double[] {-4}, new double[] {3, 8});
        ends(check, "-x0 - 2 x1 = -4", turned, 0, 1);
        tells(check, "-x0 - 2 x1 = -4", turned, new double[] {4, 0}, new double[] {0, 2}, new double[] {-3});
    }

    /** "the least j with q(j) below -1e-9 comes in": 1 and -1 above it leave q(1) = -1e-9, which is not below. */
    private static void comesInPhaseOne(Check check) {
        double[] a = {SMALL, MORE};
        for (int k = 0; k < 2; k++) {
            ConeForge forge = Build.problem(new double[][] {{0, 1}, {0, -1}, {-1000, a[k]}}, new double[3],
                    new double[2]);
            ends(check, "q(1) in phase 1 for " + a[k], forge, 0, k);
        }
    }

    /** x2 is basic with the cost 1, and t(0,1) is 1e-9 or the next double. */
    private static void comesInPhaseTwo(Check check) {
        double[] a = {SMALL, MORE};
        for (int k = 0; k < 2; k++) {
            ConeForge forge = Build.problem(new double[][] {{-1000, a[k], 512, 0}, {0, -1, 0, 1}},
                    new double[] {512, 1}, new double[] {1000, 0, 0.5, 0});
            check.same("R(0)", forge.scale(0, 0), 1.0 / 1024.0);
            check.same("S(2)", forge.scale(1, 2), 2.0);
            check.same("q(1) in phase 2 for " + a[k], forge.simplex() == 0 && forge.effort() == 2, k == 0);
            check.same("x(2) for " + a[k], forge.told(0, 2), k == 0 ? 1.0 : 0.0);
        }
    }

    /** "of the rows i with t(i,j) above 1e-9": else "if there is none the PROBLEM is UNBOUNDED". */
    private static void goesOut(Check check) {
        double[] a = {SMALL, MORE};
        for (int k = 0; k < 2; k++) {
            ConeForge forge = Build.problem(new double[][] {{-1000, a[k], 512, 0}, {0, -1, 0, 1}},
                    new double[] {512, 1}, new double[] {0, -1, 0, 0});
            ends(check, "t(0,1) for " + a[k], forge, 2, 2 + k);
            check.same("x(1) of the ray for " + a[k], forge.told(0, 1) == 1.0, k == 0);
            check.same("x(0) of the ray for " + a[k], forge.told(0, 0), k == 0 ? 0.0 : 1.0);
        }
        ConeForge ray = Build.problem(new double[][] {{-1000, SMALL, 512, 0}, {0, -1, 0, 1}},
                new double[] {512, 1}, new double[] {0, -1, 0, 0});
        ray.simplex();
        tells(check, "the ray", ray, new double[] {0, 1, -2e-9, 1}, new double[4], new double[2]);
    }

    /** In phase 1 two rows with 1e-9 let x1 come in, but neither goes out; the one with the next double does. */
    private static void goesOutPhaseOne(Check check) {
        double[] a = {SMALL, MORE};
        for (int k = 0; k < 2; k++) {
            ConeForge forge = Build.problem(new double[][] {{0, -1, 1}, {-1000, SMALL, 0}, {-1000, a[k], 0}},
                    new double[] {1, 0, 0}, new double[3]);
            ends(check, "no row in phase 1 for " + a[k], forge, k == 0 ? 2 : 0, 1 + k);
            tells(check, "no row in phase 1 for " + a[k], forge, new double[] {0, 1 - k, 1}, new double[3],
                    new double[3]);
        }
    }

    /** "in phase 2 the least row i with a BASIC from n on and |t(i,j)| above 1e-9 goes out". */
    private static void leftoverGoesOut(Check check) {
        double[] a = {SMALL, MORE};
        for (int k = 0; k < 2; k++) {
            ConeForge forge = Build.problem(new double[][] {{-1000, -a[k], 0}, {0, -1, 1}}, new double[] {0, 1},
                    new double[] {0, -1, 0});
            ends(check, "leftover with -" + a[k], forge, k == 0 ? 2 : 0, 1 + k);
            check.same("x(1) with -" + a[k], forge.told(0, 1), k == 0 ? 1.0 : 0.0);
            check.same("x(2) with -" + a[k], forge.told(0, 2), 1.0);
        }
    }

    /** "INFEASIBLE, if w is above 1e-7": -16 x0 = 1.6e-6 is scaled to -x0 = 1e-7. */
    private static void infeasible(Check check) {
        double[] b = {1.6e-6, Math.nextUp(1.6e-6)};
        for (int sign = -1; sign <= 1; sign += 2) {
            for (int k = 0; k < 2; k++) {
                ConeForge forge = Build.problem(new double[][] {{-16 * sign}}, new double[] {sign * b[k]},
                        new double[] {1});
                ends(check, "w for b " + sign * b[k], forge, k, 0);
                tells(check, "w for b " + sign * b[k], forge, new double[1], new double[] {1 - k},
                        new double[] {sign * k / 16.0});
            }
        }
        ConeForge two = Build.problem(new double[][] {{-16}, {-16}}, new double[] {1e-6, 1e-6}, new double[1]);
        ends(check, "w is a sum", two, 1, 0);
    }

    /** "the least j .. comes in", though a later one has a smaller q. */
    private static void leastColumn(Check check) {
        ConeForge forge = Build.problem(new double[][] {{1, 1, 1}}, new double[] {1}, new double[] {0, -1, -9});
        ends(check, "least j", forge, 0, 3);
        ConeForge ray = Build.problem(new double[][] {{0, 0, 0}}, new double[] {0}, new double[] {0, -1, -9});
        ends(check, "least j without a row", ray, 2, 0);
        tells(check, "its ray", ray, new double[] {0, 1, 0}, new double[3], new double[1]);
    }

    /** "that with the least b(i) / t(i,j)", in whichever row it is. */
    private static void leastRatio(Check check) {
        double[][] b = {{2, 3}, {3, 2}};
        for (double[] right : b) {
            ConeForge forge = Build.problem(new double[][] {{1, 1, 0}, {1, 0, 1}}, right, new double[] {-1, 0, 0});
            check.same("least ratio", forge.simplex(), 0);
            check.same("x(0)", forge.told(0, 0), 2.0);
            check.same("x(1)", forge.told(0, 1), right[0] - 2.0);
            check.same("x(2)", forge.told(0, 2), right[1] - 2.0);
        }
    }

    /** "of several the one with the least BASIC": that is x0, be it in row 0 or in row 1. */
    private static void leastBasic(Check check) {
        ConeForge first = Build.problem(new double[][] {{1, 0, 1}, {0, 1, 1}}, new double[] {2, 2},
                new double[] {0, 0, -1});
        ends(check, "x0 goes out of row 0", first, 0, 3);
        tells(check, "x0 goes out of row 0", first, new double[] {0, 0, 2}, new double[] {1, 0, 0},
                new double[] {-1, 0});
        ConeForge second = Build.problem(new double[][] {{0, 1, 1}, {1, 0, 1}}, new double[] {2, 2},
                new double[] {0, 0, -1});
        ends(check, "x0 goes out of row 1", second, 0, 3);
        tells(check, "x0 goes out of row 1", second, new double[] {0, 0, 2}, new double[] {1, 0, 0},
                new double[] {0, -1});
    }

    /** Two leftovers: the one in the least row goes out. */
    private static void leastLeftover(Check check) {
        ConeForge forge = Build.problem(new double[][] {{-1, 0}, {-2, 0}}, new double[2], new double[] {-1, 0});
        ends(check, "two leftovers", forge, 0, 1);
        tells(check, "two leftovers", forge, new double[2], new double[2], new double[] {1, 0});
    }

    /** A leftover goes out before the row with the least b(i) / t(i,j), but only in phase 2. */
    private static void leftoverFirst(Check check) {
        ConeForge second = Build.problem(new double[][] {{1, 1}, {-1, 0}}, new double[] {1, 0}, new double[] {-1, 0});
        ends(check, "leftover in phase 2", second, 0, 2);
        tells(check, "leftover in phase 2", second, new double[] {0, 1}, new double[2], new double[] {0, 1});
        ConeForge first = Build.problem(new double[][] {{-1}, {2}}, new double[] {0, 2}, new double[] {0});
        first.scaling(false);
        ends(check, "no leftover in phase 1", first, 1, 1);
        tells(check, "no leftover in phase 1", first, new double[1], new double[1], new double[] {1, 0.5});
    }

    /** "LOST .. if a 201st STEP would be done": the numbers go round in sixes until their last digits let them out. */
    private static void steps(Check check) {
        double[] c = {0, 0, -8e-6, 100, -10, 0.1, -500};
        double[][] a = {{0.17, -6, 0, 0.01, -0.12, 7.3e-5, -2}, {-1000, -1, -1e-6, 2, 0, 0.0098, 0}};
        ends(check, "199 steps", long7(a, c), 0, 199);
        ConeForge most = long8(a, c);
        ends(check, "200 steps", most, 0, 200);
        check.same("x(7) behind 200 steps", most.told(0, 7), 1.0);
        check.same("y(0) behind 200 steps", most.told(2, 0), 250.0);
        double[] d = {0, 1, -8e-6, 100, -10, 0.1, -500};
        double[][] more = {{0.17, -5.6, 0, 0.0099, -0.11, 7.3e-5, -2}, {-1000, -1, -1e-6, 2.1, 0, 0.01, -2}};
        ConeForge lost = long7(more, d);
        ends(check, "201 steps", lost, 3, 200);
        tells(check, "201 steps", lost, new double[7], new double[7], new double[2]);
        ConeForge longer = long8(more, d);
        ends(check, "202 steps", longer, 3, 200);
        tells(check, "202 steps", longer, new double[8], new double[8], new double[3]);
    }

    /** A column without a row behind the 200th STEP: no 201st would be done. */
    private static void unboundedBehindSteps(Check check) {
        double[] c = {0, 0, -8e-6, 100, -10, 0.1, -500};
        double[][] a = {{0.2, -6.1, 0, 0.011, -0.11, 7.4e-5, 0}, {-1000, -1, -1e-6, 2, 0, 0.011, -2}};
        ends(check, "unbounded behind 199", long7(a, c), 2, 199);
        ends(check, "unbounded behind 200", long8(a, c), 2, 200);
    }

    private static ConeForge long7(double[][] a, double[] c) {
        ConeForge forge = Build.problem(a, new double[] {-2, -0.001}, c);
        forge.scaling(false);
        return forge;
    }

    /** One row and one variable more, x7 = 1, which take one step. */
    private static ConeForge long8(double[][] a, double[] c) {
        ConeForge forge = new ConeForge();
        forge.begin(3, 8);
        forge.scaling(false);
        Build.fill(forge, a, new double[] {-2, -0.001}, c);
        forge.set(0, 2, 7, 1.0);
        forge.set(1, 2, 0, 1.0);
        return forge;
    }

    /** "behind a STEP some |number| of the table is above 1e12": 6e-5 more is 1e12 still, 1e-4 the next double. */
    private static void grown(Check check) {
        double[] more = {6e-5, 1e-4};
        for (int k = 0; k < 2; k++) {
            ConeForge minus = Build.problem(new double[][] {{1e-6, 1000}, {1000, -more[k]}}, new double[2],
                    new double[2]);
            minus.scaling(false);
            ends(check, "-1e12 and -" + more[k] + " in A", minus, k == 0 ? 0 : 3, 1);
            ConeForge plus = Build.problem(new double[][] {{1e-6, -1000}, {1000, more[k]}}, new double[2],
                    new double[2]);
            plus.scaling(false);
            check.same("1e12 and " + more[k] + " in A", plus.simplex(), k == 0 ? 0 : 3);
            ConeForge above = Build.problem(new double[][] {{1000, -more[k]}, {1e-6, 1000}}, new double[] {1, 0},
                    new double[2]);
            above.scaling(false);
            ends(check, "-1e12 and -" + more[k] + " in the first row", above, k == 0 ? 1 : 3, 1);
            ConeForge right = Build.problem(new double[][] {{1e-6, 1, 0}, {-1000, 0, 1}},
                    new double[] {1000, more[k]}, new double[] {-1, 0, 0});
            right.scaling(false);
            ends(check, "1e12 and " + more[k] + " in b", right, k == 0 ? 0 : 3, 3);
            check.same("x(2) with " + more[k], right.told(0, 2), k == 0 ? 1e12 : 0.0);
            check.same("y(0) with " + more[k] + " is 0", right.told(2, 0) == 0.0, k == 1);
        }
    }
}
