public final class Promise11EffortTest {
    public static void main(String[] args) {
        Check check = new Check();
        ConeForge forge = Build.solvable();
        check.same("nothing solved", forge.effort(), 0);
        forge.simplex();
        check.same("steps", forge.effort(), 2);
        check.same("steps asked again", forge.effort(), 2);
        forge.interior(100);
        check.same("turns", forge.effort(), 9);
        forge.interior(4);
        check.same("turns allowed", forge.effort(), 4);
        check.fails("wrong turns", IllegalArgumentException.class, () -> forge.interior(0));
        check.same("a wrong call solves nothing", forge.effort(), 4);
        forge.begin(1, 1);
        check.same("behind begin", forge.effort(), 4);
        check.fails("singular", ArithmeticException.class, () -> forge.interior(50));
        check.same("also if it threw", forge.effort(), 1);
        forge.simplex();
        check.same("no step", forge.effort(), 0);

        ConeForge ray = Build.problem(new double[][] {{0}}, new double[] {0}, new double[] {-1});
        check.same("unbounded at once", ray.simplex(), 2);
        check.same("no step was done", ray.effort(), 0);
        check.end();
    }
}
