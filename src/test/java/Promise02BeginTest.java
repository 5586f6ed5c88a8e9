public final class Promise02BeginTest {
    public static void main(String[] args) {
        Check check = new Check();
        for (int m = -1; m <= 7; m++) {
            for (int n = -1; n <= 10; n++) {
                one(check, m, n);
            }
        }
        one(check, Integer.MAX_VALUE, 1);
        one(check, 1, Integer.MIN_VALUE);
        clears(check);
        changesNothingElse(check);
        check.end();
    }

    private static void one(Check check, int m, int n) {
        ConeForge forge = new ConeForge();
        forge.begin(2, 3);
        String call = "begin(" + m + ", " + n + ")";
        if (m >= 1 && m <= 5 && n >= 1 && n <= 8) {
            check.same(call, forge.begin(m, n), m * n);
            check.same(call + " m", forge.count(0), m);
            check.same(call + " n", forge.count(1), n);
        } else {
            check.fails(call, IllegalArgumentException.class, () -> forge.begin(m, n));
            check.same(call + " m", forge.count(0), 2);
            check.same(call + " n", forge.count(1), 3);
        }
    }

    private static void clears(Check check) {
        ConeForge forge = new ConeForge();
        forge.begin(5, 8);
        for (int i = 0; i < 5; i++) {
            forge.set(1, i, 0, 7.0);
            for (int j = 0; j < 8; j++) {
                forge.set(0, i, j, 3.0);
                forge.set(2, 0, j, 5.0);
            }
        }
        check.same("numbers of A", forge.count(3), 40);
        forge.begin(1, 1);
        forge.begin(5, 8);
        check.same("numbers of A behind begin", forge.count(3), 0);
        for (int i = 0; i < 5; i++) {
            check.same("b(" + i + ")", forge.set(1, i, 0, 1.0), 0.0);
            for (int j = 0; j < 8; j++) {
                check.same("A(" + i + "," + j + ")", forge.set(0, i, j, 1.0), 0.0);
            }
        }
        for (int j = 0; j < 8; j++) {
            check.same("c(" + j + ")", forge.set(2, 0, j, 1.0), 0.0);
        }
    }

    private static void changesNothingElse(Check check) {
        ConeForge forge = Build.solvable();
        forge.scaling(false);
        forge.text(120L);
        check.fails("read", IllegalArgumentException.class, forge::read);
        forge.simplex();
        check.fails("begin(6, 9)", IllegalArgumentException.class, () -> forge.begin(6, 9));
        check.same("told behind a begin that threw", forge.told(0, 0), 3.0);
        forge.begin(2, 4);
        check.same("told no more", forge.count(5), 0);
        check.same("text", forge.count(2), 1);
        check.same("scaling", forge.count(4), 0);
        check.same("where", forge.where(), 0);
        check.same("effort", forge.effort(), 2);
    }
}
