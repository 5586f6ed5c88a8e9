public final class Promise04ScalingTest {
    public static void main(String[] args) {
        Check check = new Check();
        ConeForge forge = Build.problem(new double[][] {{8, 2}}, new double[] {4}, new double[] {1, 1});
        check.same("off", forge.scaling(false), true);
        check.same("off again", forge.scaling(false), false);
        check.same("R while off", forge.scale(0, 0), 1.0);
        check.same("S while off", forge.scale(1, 1), 1.0);
        check.same("on", forge.scaling(true), false);
        check.same("on again", forge.scaling(true), true);
        check.same("R while on", forge.scale(0, 0), 0.125);
        check.same("S while on", forge.scale(1, 1), 4.0);
        keepsWhatIsTold(check);
        countsInTheMethods(check);
        check.end();
    }

    private static void keepsWhatIsTold(Check check) {
        ConeForge forge = Build.unbounded();
        forge.simplex();
        check.same("x(0)", forge.told(0, 0), 4.0);
        forge.scaling(false);
        check.same("x(0) told with scaling off", forge.told(0, 0), 4.0);
        check.same("count 5", forge.count(5), 1);
        forge.simplex();
        check.same("x(0) solved with scaling off", forge.told(0, 0), 4.0);
        check.same("x(1) solved with scaling off", forge.told(0, 1), 1.0);
    }

    private static void countsInTheMethods(Check check) {
        ConeForge forge = Build.solvable();
        forge.interior(60);
        double scaled = forge.told(0, 1);
        forge.scaling(false);
        forge.interior(60);
        double plain = forge.told(0, 1);
        check.same("x(1) unscaled", plain, 0.9999999984315014);
        check.same("scaling changes the last digits", scaled != plain, true);
    }
}
