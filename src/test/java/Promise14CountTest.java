public final class Promise14CountTest {
    public static void main(String[] args) {
        Check check = new Check();
        ConeForge forge = new ConeForge();
        int[] wrong = {-1, 6, Integer.MAX_VALUE, Integer.MIN_VALUE};
        for (int what : wrong) {
            check.fails("count(" + what + ")", IllegalArgumentException.class, () -> forge.count(what));
        }
        forge.begin(3, 7);
        check.same("m", forge.count(0), 3);
        check.same("n", forge.count(1), 7);
        forge.text(0x3132L);
        check.same("characters", forge.count(2), 2);
        forge.set(0, 2, 6, 4.0);
        forge.set(0, 0, 0, -1e-6);
        forge.set(0, 1, 1, -0.0);
        forge.set(1, 0, 0, 4.0);
        forge.set(2, 0, 0, 4.0);
        check.same("numbers of A", forge.count(3), 2);
        forge.set(0, 2, 6, 0.0);
        check.same("numbers of A", forge.count(3), 1);
        forge.scaling(false);
        check.same("scaling off", forge.count(4), 0);
        forge.scaling(true);
        check.same("scaling on", forge.count(4), 1);
        told(check);
        check.end();
    }

    private static void told(Check check) {
        ConeForge forge = Build.solvable();
        check.same("nothing told", forge.count(5), 0);
        forge.simplex();
        check.same("told", forge.count(5), 1);
        forge.interior(1);
        check.same("told without turns left", forge.count(5), 1);
        forge.set(0, 0, 0, 1.0);
        check.same("not behind set", forge.count(5), 0);
        ConeForge none = Build.infeasible();
        none.simplex();
        check.same("told where there is no solution", none.count(5), 1);
        check.fails("singular", ArithmeticException.class, () -> none.interior(100));
        check.same("not behind singular", none.count(5), 0);
    }
}
