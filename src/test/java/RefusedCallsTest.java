/**
 * A refused call changes nothing: each is done on an object in each of some states, and all that later calls answer
 * is compared with an object in the same state on which the call was not done.
 */
public final class RefusedCallsTest {
    private static final int STATES = 8;
    private static final int LEAST = Integer.MIN_VALUE;
    private static final int MOST = Integer.MAX_VALUE;

    private final Check check;
    private final int state;
    /** Has every refused call of its state behind it in the end. */
    private final ConeForge patient;

    private RefusedCallsTest(Check check, int state) {
        this.check = check;
        this.state = state;
        patient = made(state);
    }

    private interface Call {
        void on(ConeForge forge);
    }

    public static void main(String[] args) {
        Check check = new Check();
        for (int state = 0; state < STATES; state++) {
            RefusedCallsTest test = new RefusedCallsTest(check, state);
            test.begins();
            test.sets();
            test.texts();
            test.interiors();
            test.questions();
            Look.same(check, "state " + state + " behind all of them", test.patient, made(state), true);
            test.reads();
        }
        check.end();
    }

    private static ConeForge made(int state) {
        switch (state) {
            case 0:
                return new ConeForge();
            case 1:
                ConeForge waiting = Build.solvable();
                Build.write(waiting, "1 1 5 7 1 1 2");
                return waiting;
            case 2:
                ConeForge failed = Build.solvable();
                Build.write(failed, "1 1 x");
                tryRead(failed);
                failed.simplex();
                return failed;
            case 3:
                ConeForge full = Build.solvable();
                Build.write(full, " ".repeat(287) + "2 1 5 7 8 1 6");
                full.scaling(false);
                full.interior(4);
                return full;
            case 4:
                return great();
            case 5:
                ConeForge singular = Build.singular();
                singular.simplex();
                tryInterior(singular);
                return singular;
            case 6:
                ConeForge infeasible = Build.infeasible();
                infeasible.simplex();
                Build.write(infeasible, "1");
                return infeasible;
            default:
                ConeForge ray = Build.unbounded();
                ray.simplex();
                Build.write(ray, " ".repeat(300));
                return ray;
        }
    }

    private static ConeForge great() {
        ConeForge forge = new ConeForge();
        forge.begin(5, 8);
        for (int i = 0; i < 5; i++) {
            forge.set(1, i, 0, 10.0 + i);
            for (int j = 0; j < 8; j++) {
                forge.set(0, i, j, (i * 5 + j * 3) % 7 - 1.5);
            }
        }
        for (int j = 0; j < 8; j++) {
            forge.set(2, 0, j, j - 2.0);
        }
        return forge;
    }

    private static void tryRead(ConeForge forge) {
        try {
            forge.read();
        } catch (IllegalArgumentException e) {
            return;
        }
        throw new IllegalStateException("the text was to be refused");
    }

    private static void tryInterior(ConeForge forge) {
        try {
            forge.interior(50);
        } catch (ArithmeticException e) {
            return;
        }
        throw new IllegalStateException("the matrix was to be singular");
    }

    private void refused(String name, Class<? extends RuntimeException> due, Call call) {
        String full = "state " + state + ", " + name;
        ConeForge forge = made(state);
        check.fails(full, due, () -> call.on(forge));
        Look.same(check, full, forge, made(state), true);
        check.fails(full + " behind others", due, () -> call.on(patient));
    }

    private void wrongArgument(String name, Call call) {
        refused(name, IllegalArgumentException.class, call);
    }

    private void wrongIndex(String name, Call call) {
        refused(name, IndexOutOfBoundsException.class, call);
    }

    /** The last ones have a product that wraps round to something allowed. */
    private void begins() {
        int[][] wrong = {{0, 1}, {1, 0}, {6, 1}, {1, 9}, {5, 9}, {6, 8}, {0, 0}, {-1, -1}, {-5, -8}, {LEAST, LEAST},
            {MOST, MOST}, {65536, 65536}, {65537, 65536}, {MOST, -1}};
        for (int[] size : wrong) {
            wrongArgument("begin(" + size[0] + ", " + size[1] + ")", forge -> forge.begin(size[0], size[1]));
        }
    }

    private void sets() {
        int m = made(state).count(0);
        int n = made(state).count(1);
        int[] whats = {-1, 3, LEAST, MOST};
        for (int what : whats) {
            wrongArgument("set(" + what + ", 0, 0, 1)", forge -> forge.set(what, 0, 0, 1.0));
        }
        double[] values = {Math.nextUp(1000.0), Math.nextDown(-1000.0), Math.nextDown(1e-6), Math.nextUp(-1e-6),
            Double.MIN_VALUE, Double.NaN, Double.POSITIVE_INFINITY, Double.NEGATIVE_INFINITY};
        for (double v : values) {
            for (int what = 0; what < 3; what++) {
                final int w = what;
                wrongArgument("set(" + w + ", 0, 0, " + v + ")", forge -> forge.set(w, 0, 0, v));
                wrongArgument("set(" + w + ", -1, -1, " + v + ")", forge -> forge.set(w, -1, -1, v));
            }
        }
        int[] rows = {-1, m, 5, LEAST, MOST};
        for (int i : rows) {
            wrongIndex("set(0, " + i + ", 0, 9)", forge -> forge.set(0, i, 0, 9.0));
            wrongIndex("set(1, " + i + ", 0, 9)", forge -> forge.set(1, i, 0, 9.0));
        }
        int[] variables = {-1, n, 8, LEAST, MOST};
        for (int j : variables) {
            wrongIndex("set(0, 0, " + j + ", 9)", forge -> forge.set(0, 0, j, 9.0));
            wrongIndex("set(2, 0, " + j + ", 9)", forge -> forge.set(2, 0, j, 9.0));
        }
    }

    private void texts() {
        long[] wrong = {9L, 11L, 31L, 127L, 128L, 255L, -1L, LEAST, 0x3120310920312031L, 0x0920312031203120L,
            0x3120312031203180L, Long.MIN_VALUE};
        for (long w : wrong) {
            wrongArgument("text(" + w + ")", forge -> forge.text(w));
        }
        if (made(state).count(2) == 300) {
            refused("text(32)", IllegalStateException.class, forge -> forge.text(32L));
            refused("text of 8", IllegalStateException.class, forge -> forge.text(0x2031203120312031L));
        }
    }

    private void interiors() {
        int[] wrong = {0, -1, 101, LEAST, MOST};
        for (int turns : wrong) {
            wrongArgument("interior(" + turns + ")", forge -> forge.interior(turns));
        }
    }

    private void questions() {
        ConeForge like = made(state);
        int m = like.count(0);
        int n = like.count(1);
        int[] ends = {LEAST, MOST, -1};
        for (int what : ends) {
            wrongArgument("told(" + what + ", 0)", forge -> forge.told(what, 0));
            wrongArgument("gap(" + what + ")", forge -> forge.gap(what));
            wrongArgument("certifies(" + what + ", 0)", forge -> forge.certifies(what, 0.0));
            wrongArgument("count(" + what + ")", forge -> forge.count(what));
            wrongArgument("scale(" + what + ", 0)", forge -> forge.scale(what, 0));
            wrongIndex("scale(0, " + what + ")", forge -> forge.scale(0, what));
            wrongIndex("scale(1, " + what + ")", forge -> forge.scale(1, what));
        }
        wrongArgument("told(5, 0)", forge -> forge.told(5, 0));
        wrongArgument("gap(4)", forge -> forge.gap(4));
        wrongArgument("certifies(3, 0)", forge -> forge.certifies(3, 0.0));
        wrongArgument("count(6)", forge -> forge.count(6));
        wrongArgument("scale(2, 0)", forge -> forge.scale(2, 0));
        wrongIndex("scale(0, m)", forge -> forge.scale(0, m));
        wrongIndex("scale(1, n)", forge -> forge.scale(1, n));
        double[] wrong = {-Double.MIN_VALUE, Math.nextUp(1.0), Double.NaN};
        for (double e : wrong) {
            wrongArgument("certifies(0, " + e + ")", forge -> forge.certifies(0, e));
        }
        if (like.count(5) == 1) {
            wrongIndex("told(0, n)", forge -> forge.told(0, n));
            wrongIndex("told(1, n)", forge -> forge.told(1, n));
            wrongIndex("told(2, m)", forge -> forge.told(2, m));
            wrongIndex("told(2, -1)", forge -> forge.told(2, -1));
        } else {
            refused("told(0, 0)", IllegalStateException.class, forge -> forge.told(0, 0));
            refused("told(3, 0)", IllegalStateException.class, forge -> forge.told(3, 0));
            refused("told(2, -1)", IllegalStateException.class, forge -> forge.told(2, -1));
            refused("gap(0)", IllegalStateException.class, forge -> forge.gap(0));
            refused("certifies(0, 0)", IllegalStateException.class, forge -> forge.certifies(0, 0.0));
        }
    }

    /** A refused read changes where alone; the text, if there is one, is still there to be refused again. */
    private void reads() {
        if (state == 1) {
            return;
        }
        ConeForge forge = made(state);
        check.fails("state " + state + ", read", IllegalArgumentException.class, forge::read);
        int where = forge.where();
        check.fails("state " + state + ", read again", IllegalArgumentException.class, forge::read);
        check.same("state " + state + ", where again", forge.where(), where);
        Look.same(check, "state " + state + ", read", forge, made(state), false);
    }
}
