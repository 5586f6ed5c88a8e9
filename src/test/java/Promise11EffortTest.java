public final class Promise11EffortTest {
    public static void main(String[] args) {
        Check check = new Check();
        ConeForge forge = Build.solvable();
        check.same("nothing solved", forge.effort(), 0);
        forge.simplex();
        check.same("steps", forge.effort(), 2);
        check.same("steps asked again", forge.effort(), 2);
        forge.interior(100);
        check.same("turns", forge.effort(), 9);
        forge.interior(4);
        check.same("turns allowed", forge.effort(), 4);
        check.fails("wrong turns", IllegalArgumentException.class, () -> forge.interior(0));
        check.same("a wrong call solves nothing", forge.effort(), 4);
        forge.begin(1, 1);
        check.same("behind begin", forge.effort(), 4);
        check.fails("singular", ArithmeticException.class, () -> forge.interior(50));
        check.same("also if it threw", forge.effort(), 1);
        forge.simplex();
        check.same("no step", forge.effort(), 0);

        ConeForge ray = Build.problem(new double[][] {{0}}, new double[] {0}, new double[] {-1});
        check.same("unbounded at once", ray.simplex(), 2);
        check.same("no step was done", ray.effort(), 0);
        threw(check);
        check.end();
    }

    /** The matrix is singular in the fourth turn: with fewer turns it is never looked at. */
    private static void threw(Check check) {
        ConeForge forge = Build.infeasible();
        for (int turns = 1; turns <= 3; turns++) {
            check.same("interior(" + turns + ")", forge.interior(turns), 4);
            check.same("turns begun", forge.effort(), turns);
        }
        for (int turns = 4; turns <= 100; turns += 48) {
            final int most = turns;
            check.fails("interior(" + turns + ")", ArithmeticException.class, () -> forge.interior(most));
            check.same("turns begun in " + turns, forge.effort(), 4);
        }
        forge.set(0, 0, 0, 2.0);
        Build.write(forge, "1 1 5 7");
        forge.read();
        forge.scaling(false);
        check.same("set, read and scaling leave it", forge.effort(), 4);
    }
}
