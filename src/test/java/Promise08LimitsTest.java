/**
 * The limits of the interior method to the last bit. Each pair of problems differs in one number, by so little that
 * at the turn told the value compared is just the limit in the first and the next double beyond it in the second.
 */
public final class Promise08LimitsTest {
    private static final int THROWS = -1;

    public static void main(String[] args) {
        Check check = new Check();
        solvedByP(check);
        solvedByD(check);
        solvedByG(check);
        lostByGreatX(check);
        lostByGreatS(check);
        lostByGreatY(check);
        lostBySmallX(check);
        lostBySmallS(check);
        lostByFirst(check);
        singular(check);
        lengthOfStep(check);
        solvedBeforeLost(check);
        lostBeforeSingular(check);
        hundredTurns(check);
        check.end();
    }

    /** Solves in as many turns as are told, and once more with one turn fewer, which must not be enough. */
    private static void end(Check check, String name, ConeForge forge, int turns, int due) {
        check.same(name + ", one turn fewer", forge.interior(turns - 1), 4);
        int end;
        try {
            end = forge.interior(turns);
        } catch (ArithmeticException e) {
            end = THROWS;
        }
        check.same(name, end, due);
        check.same(name + ", turns begun", forge.effort(), turns);
        check.same(name + ", told", forge.count(5), end == THROWS ? 0 : 1);
    }

    /** "SOLVED, if MAX of |p| <= 1e-8 * (1 + MAX of |b|)". */
    private static void solvedByP(Check check) {
        double[] b = {-9.61500009614998E-6, -9.615000096149981E-6, -9.615000096149983E-6};
        for (int k = 0; k < 3; k++) {
            ConeForge forge = Build.problem(new double[][] {{1000}}, new double[] {b[k]}, new double[] {0.001});
            end(check, "p with b " + b[k], forge, 5, k < 2 ? 0 : 4);
        }
    }

    /** "MAX of |d| <= 1e-8 * (1 + MAX of |c|)". */
    private static void solvedByD(Check check) {
        double limit = 2.666656559098651;
        double[] c = {Math.nextUp(limit), limit, Math.nextDown(limit)};
        for (int k = 0; k < 3; k++) {
            ConeForge forge = Build.problem(new double[][] {{-4, 2, -2}}, new double[] {-4},
                    new double[] {c[k], 2, -2});
            forge.scaling(false);
            end(check, "d with c " + c[k], forge, 7, k < 2 ? 0 : 4);
        }
    }

    /** "and g <= 1e-8 * (1 + v)". */
    private static void solvedByG(Check check) {
        double[] c = {0.8701718679329677, 0.8701718679329674, 0.8701718679329673};
        for (int k = 0; k < 3; k++) {
            ConeForge forge = Build.problem(new double[][] {{-0.25, 0.25}, {4.5, -3.5}}, new double[] {1.75, -1.25},
                    new double[] {1.25, c[k]});
            end(check, "g with c " + c[k], forge, 9, k < 2 ? 0 : 4);
        }
    }

    /** "Else LOST, if some x(j) .. is above 1e9". */
    private static void lostByGreatX(Check check) {
        double[] c = {0.1515663612581011, 0.151566361258144, 0.1515663612581463};
        for (int k = 0; k < 3; k++) {
            ConeForge forge = Build.problem(new double[][] {{2, -3, -2}}, new double[] {-2},
                    new double[] {-2, 4, c[k]});
            end(check, "great x with c " + c[k], forge, 5, k < 2 ? 4 : 3);
        }
    }

    /** "some .. s(j) .. is above 1e9". */
    private static void lostByGreatS(Check check) {
        double[] c = {1.8626441492084758, 1.862644149208476, 1.8626441492084762};
        for (int k = 0; k < 3; k++) {
            ConeForge forge = Build.problem(new double[][] {{1000, 0, 1e-6}}, new double[] {1000},
                    new double[] {-1000, 1000, c[k]});
            end(check, "great s with c " + c[k], forge, 4, k < 2 ? 4 : 3);
        }
    }

    /** "some .. |y(i)| is above 1e9": y is below 0 in the one problem, above it where the row is turned round. */
    private static void lostByGreatY(Check check) {
        double[] a = {0.054264985776998564, 0.05426498577699579, 0.054264985776973536};
        for (int sign = -1; sign <= 1; sign += 2) {
            for (int k = 0; k < 3; k++) {
                ConeForge forge = Build.problem(new double[][] {{sign * 100, sign * a[k]}, {0, 10}},
                        new double[] {sign * -2, 0.1}, new double[] {-2, 10});
                end(check, "great y with A " + sign * a[k], forge, 5, k < 2 ? 4 : 3);
            }
        }
    }

    /** "or some x(j) .. below 1e-12". */
    private static void lostBySmallX(Check check) {
        double[] a = {491.6334247858026, 491.6334247857041, 491.6334247858646};
        for (int k = 0; k < 3; k++) {
            ConeForge forge = Build.problem(new double[][] {{a[k], 0.001}}, new double[] {-1e-6}, new double[] {1, 1});
            end(check, "small x with A " + a[k], forge, 9, k < 2 ? 4 : 3);
        }
    }

    /** "or some .. s(j) below 1e-12". */
    private static void lostBySmallS(Check check) {
        double[] a = {-0.2673465718761736, -0.26734657187616245, -0.2673465718761717};
        for (int k = 0; k < 3; k++) {
            ConeForge forge = Build.problem(new double[][] {{-0.001, a[k], 100}}, new double[] {1000},
                    new double[] {1000, -1e-6, 0});
            forge.scaling(false);
            end(check, "small s with A " + a[k], forge, 9, k < 2 ? 4 : 3);
        }
    }

    /** As above, but it is x(0) or s(0) alone that is not inside. */
    private static void lostByFirst(Check check) {
        double[] small = {0.15156636125808293, 0.1515663612580829};
        for (int k = 0; k < 2; k++) {
            ConeForge x = Build.problem(new double[][] {{-2, -3, 2}}, new double[] {-2},
                    new double[] {small[k], 4, -2});
            end(check, "great x(0) with c " + small[k], x, 5, 4 - k);
        }
        double[] great = {1.8626, 1.8627};
        for (int k = 0; k < 2; k++) {
            ConeForge s = Build.problem(new double[][] {{1e-6, 0, 1000}}, new double[] {1000},
                    new double[] {great[k], 1000, -1000});
            end(check, "great s(0) with c " + great[k], s, 4, 4 - k);
        }
        double[] wide = {491.63, 491.64};
        for (int k = 0; k < 2; k++) {
            ConeForge x = Build.problem(new double[][] {{0.001, wide[k]}}, new double[] {-1e-6}, new double[] {1, 1});
            end(check, "small x(0) with A " + wide[k], x, 9, 4 - k);
        }
        double[] narrow = {-0.27, -0.26};
        for (int k = 0; k < 2; k++) {
            ConeForge s = Build.problem(new double[][] {{narrow[k], -0.001, 100}}, new double[] {1000},
                    new double[] {-1e-6, 1000, 0});
            s.scaling(false);
            end(check, "small s(0) with A " + narrow[k], s, 9, 4 - k);
        }
    }

    /** "SINGULAR, if w <= 1e-13", with one row and with two. */
    private static void singular(Check check) {
        double[] b = {0.571880913827128, 0.5718809138271316, 0.5718809138271479};
        for (int k = 0; k < 3; k++) {
            ConeForge forge = Build.problem(new double[][] {{-0.001}}, new double[] {b[k]}, new double[] {100});
            end(check, "w with b " + b[k], forge, 3, k < 2 ? THROWS : 4);
        }
        double[] a = {0.0028432751984798473, 0.002843275198479848, 0.0028432751984798486};
        for (int k = 0; k < 3; k++) {
            ConeForge forge = Build.problem(new double[][] {{a[k], 100}, {-1000, 100}}, new double[] {-0.01, 1e-6},
                    new double[] {-0.01, 0.001});
            end(check, "w with A " + a[k], forge, 5, k < 2 ? THROWS : 4);
        }
    }

    /** "a is the least of 1 and of 0.995 * (x(j) / -X(j)) .. e likewise": x0 = b with T = 0.1 - b and X = b - 1. */
    private static void lengthOfStep(Check check) {
        double[] b = {1, 2, -1};
        double[] x = {1, 2, 0.005};
        double[] s = {0.1, 0.005, 2.1};
        double[] y = {0.9, 0.995, -1.1};
        for (int k = 0; k < b.length; k++) {
            ConeForge forge = Build.problem(new double[][] {{1}}, new double[] {b[k]}, new double[] {1});
            check.same("one turn for b " + b[k], forge.interior(1), 4);
            near(check, "x for b " + b[k], forge.told(0, 0), x[k]);
            near(check, "s for b " + b[k], forge.told(1, 0), s[k]);
            near(check, "y for b " + b[k], forge.told(2, 0), y[k]);
        }
    }

    private static void near(Check check, String name, double got, double due) {
        check.same(name + " is near " + due + " with " + got, Math.abs(got - due) < 1e-14, true);
    }

    /** "SOLVED .. Else LOST": where both would fit it is solved. */
    private static void solvedBeforeLost(Check check) {
        ConeForge forge = Build.problem(new double[][] {{2, -2, 2}}, new double[] {0.01}, new double[] {0, 0.1, 1000});
        forge.scaling(false);
        end(check, "solved with an x below 1e-12", forge, 11, 0);
        double least = Math.min(forge.told(0, 0), Math.min(forge.told(0, 1), forge.told(0, 2)));
        check.same("it is below 1e-12", least < 1e-12, true);
    }

    /** "LOST .. Else .. M is FACTORED": |y| is 1e9 at first, so M is looked at and singular; then it is above. */
    private static void lostBeforeSingular(Check check) {
        for (int sign = -1; sign <= 1; sign += 2) {
            double[] b = {998.9989, 998.9989000000002};
            for (int k = 0; k < 2; k++) {
                ConeForge forge = Build.problem(new double[][] {{sign * -0.001}}, new double[] {sign * b[k]},
                        new double[] {-1000});
                forge.scaling(false);
                end(check, "y of 1e9 with b " + sign * b[k], forge, 2, k == 0 ? THROWS : 3);
                if (k == 1) {
                    check.same("y", forge.told(2, 0), sign * Math.nextUp(1e9));
                }
            }
        }
    }

    /** "at most turns TURNS begun (1 to 100)": SOLVED in the 100th TURN, LOST in it, and LOST only in the 101st. */
    private static void hundredTurns(Check check) {
        double[][] a = {{-1e-4, 100, 3, 0.01, -1e-5, -1e-6}, {1, 0.001, -300, 0.001, -7, 0.01},
            {-1e-5, 1e-6, 1, -1e-5, -2, -1e-4}};
        double[] b = {-1000, -1e-4, 0};
        double[][] c = {{1, -0.01, -1e-6, 1000, 1e-4, 1e-5}, {300, 1e-5, -1e-6, 10, 0, 1e-4},
            {5, 1e-6, 1, 10, -1e-4, 0}};
        int[] ends = {0, 3, 4};
        int[] endsBehind = {0, 3, 3};
        int[] turns = {100, 100, 101};
        for (int k = 0; k < a.length; k++) {
            double[][] row = {a[k]};
            double[] right = {b[k]};
            String name = "100 turns, problem " + k;
            end(check, name, Build.problem(row, right, c[k]), 100, ends[k]);
            Plain plain = new Plain(row, right, c[k], true);
            check.same(name + ", with turns enough", plain.interior(200), endsBehind[k]);
            check.same(name + ", turns needed", plain.effort, turns[k]);
        }
    }
}
