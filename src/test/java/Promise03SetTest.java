public final class Promise03SetTest {
    private static final double[] GOOD = {0.0, -0.0, 1e-6, -1e-6, 1000.0, -1000.0, 0.1, -3.5};
    private static final double[] BAD = {
        Math.nextUp(1000.0), Math.nextDown(-1000.0), Math.nextDown(1e-6), Math.nextUp(-1e-6), Double.MIN_VALUE,
        -Double.MIN_VALUE, Double.NaN, Double.POSITIVE_INFINITY, Double.NEGATIVE_INFINITY, Double.MAX_VALUE};

    public static void main(String[] args) {
        Check check = new Check();
        eachPlace(check);
        values(check);
        wrongPlaces(check);
        told(check);
        check.end();
    }

    private static void eachPlace(Check check) {
        ConeForge forge = new ConeForge();
        forge.begin(5, 8);
        for (int round = 0; round < 2; round++) {
            for (int i = 0; i < 5; i++) {
                check.same("b(" + i + ")", forge.set(1, i, -7, 100.0 + i + round), round == 0 ? 0.0 : 100.0 + i);
                for (int j = 0; j < 8; j++) {
                    double v = 10.0 * i + j + 1.0;
                    check.same("A(" + i + "," + j + ")", forge.set(0, i, j, v), round == 0 ? 0.0 : v);
                }
            }
            for (int j = 0; j < 8; j++) {
                check.same("c(" + j + ")", forge.set(2, 99, j, 200.0 + j + round), round == 0 ? 0.0 : 200.0 + j);
            }
        }
    }

    private static void values(Check check) {
        ConeForge forge = new ConeForge();
        for (int what = 0; what < 3; what++) {
            final int w = what;
            double before = 0.0;
            for (double v : GOOD) {
                check.same("set(" + w + ", 0, 0, " + v + ")", forge.set(w, 0, 0, v), before);
                before = v;
            }
            for (double v : BAD) {
                check.fails("set(" + w + ", 0, 0, " + v + ")", IllegalArgumentException.class,
                        () -> forge.set(w, 0, 0, v));
            }
            check.same("kept " + w, forge.set(w, 0, 0, 1.0), before);
        }
    }

    private static void wrongPlaces(Check check) {
        ConeForge forge = new ConeForge();
        forge.begin(2, 3);
        int[] whats = {-1, 3, Integer.MAX_VALUE, Integer.MIN_VALUE};
        for (int what : whats) {
            check.fails("what " + what, IllegalArgumentException.class, () -> forge.set(what, 0, 0, 1.0));
            check.fails("what first " + what, IllegalArgumentException.class, () -> forge.set(what, 9, 9, 1.0));
        }
        int[] rows = {-1, 2, 5, Integer.MAX_VALUE, Integer.MIN_VALUE};
        for (int i : rows) {
            check.fails("A row " + i, IndexOutOfBoundsException.class, () -> forge.set(0, i, 0, 1.0));
            check.fails("b row " + i, IndexOutOfBoundsException.class, () -> forge.set(1, i, 0, 1.0));
            check.fails("v before row " + i, IllegalArgumentException.class, () -> forge.set(1, i, 0, 2000.0));
            check.same("c does not look at row " + i, forge.set(2, i, 0, 0.0), 0.0);
        }
        int[] variables = {-1, 3, 8, Integer.MAX_VALUE, Integer.MIN_VALUE};
        for (int j : variables) {
            check.fails("A variable " + j, IndexOutOfBoundsException.class, () -> forge.set(0, 0, j, 1.0));
            check.fails("c variable " + j, IndexOutOfBoundsException.class, () -> forge.set(2, 0, j, 1.0));
            check.same("b does not look at variable " + j, forge.set(1, 0, j, 0.0), 0.0);
        }
        check.same("nothing set", forge.count(3), 0);
    }

    private static void told(Check check) {
        for (int what = 0; what < 3; what++) {
            final int w = what;
            ConeForge forge = Build.solvable();
            forge.simplex();
            check.fails("wrong value", IllegalArgumentException.class, () -> forge.set(w, 0, 0, 1e-7));
            check.fails("wrong place", IndexOutOfBoundsException.class, () -> forge.set(w, -1, -1, 1.0));
            check.same("told behind a set that threw", forge.count(5), 1);
            double same = w == 0 ? 1.0 : w == 1 ? 4.0 : -3.0;
            check.same("set to the same", forge.set(w, 0, 0, same), same);
            check.same("told no more, what " + w, forge.count(5), 0);
        }
    }
}
