public final class Promise01NewObjectTest {
    public static void main(String[] args) {
        Check check = new Check();
        ConeForge forge = new ConeForge();
        check.same("m", forge.count(0), 1);
        check.same("n", forge.count(1), 1);
        check.same("characters", forge.count(2), 0);
        check.same("numbers of A", forge.count(3), 0);
        check.same("scaling is on", forge.count(4), 1);
        check.same("nothing told", forge.count(5), 0);
        check.same("where", forge.where(), -2);
        check.same("effort", forge.effort(), 0);
        check.fails("told", IllegalStateException.class, () -> forge.told(0, 0));
        check.same("A(0,0)", forge.set(0, 0, 0, 1.0), 0.0);
        check.same("b(0)", forge.set(1, 0, 0, 1.0), 0.0);
        check.same("c(0)", forge.set(2, 0, 0, 1.0), 0.0);
        check.same("scaling", forge.scaling(true), true);
        smallest(check);
        nothingSolved(check);
        emptyText(check);

        ConeForge first = new ConeForge();
        ConeForge second = new ConeForge();
        first.begin(2, 3);
        first.text(49L);
        check.same("objects share no m", second.count(0), 1);
        check.same("objects share no text", second.count(2), 0);
        check.end();
    }

    /** m and n are 1: the first row and variable are there, and no second. */
    private static void smallest(Check check) {
        ConeForge forge = new ConeForge();
        check.same("R(0)", forge.scale(0, 0), 1.0);
        check.same("S(0)", forge.scale(1, 0), 1.0);
        check.fails("R(1)", IndexOutOfBoundsException.class, () -> forge.scale(0, 1));
        check.fails("S(1)", IndexOutOfBoundsException.class, () -> forge.scale(1, 1));
        check.fails("A(1,0)", IndexOutOfBoundsException.class, () -> forge.set(0, 1, 0, 1.0));
        check.fails("A(0,1)", IndexOutOfBoundsException.class, () -> forge.set(0, 0, 1, 1.0));
        check.fails("b(1)", IndexOutOfBoundsException.class, () -> forge.set(1, 1, 0, 1.0));
        check.fails("c(1)", IndexOutOfBoundsException.class, () -> forge.set(2, 0, 1, 1.0));
    }

    /** All numbers are 0: the simplex method has nothing to do, and the other's matrix is 0. */
    private static void nothingSolved(Check check) {
        ConeForge forge = new ConeForge();
        for (int what = 0; what < 5; what++) {
            final int w = what;
            check.fails("told(" + w + ", 0)", IllegalStateException.class, () -> forge.told(w, 0));
        }
        for (int what = 0; what < 4; what++) {
            final int w = what;
            check.fails("gap(" + w + ")", IllegalStateException.class, () -> forge.gap(w));
        }
        for (int what = 0; what < 3; what++) {
            final int w = what;
            check.fails("certifies(" + w + ", 0)", IllegalStateException.class, () -> forge.certifies(w, 0.0));
        }
        check.fails("interior", ArithmeticException.class, () -> forge.interior(1));
        check.same("still nothing told", forge.count(5), 0);
        check.same("simplex", forge.simplex(), 0);
        check.same("no step", forge.effort(), 0);
        for (int what = 0; what < 5; what++) {
            check.same("told(" + what + ", 0)", forge.told(what, 0), 0.0);
        }
    }

    private static void emptyText(Check check) {
        ConeForge forge = new ConeForge();
        check.fails("read", IllegalArgumentException.class, forge::read);
        check.same("where", forge.where(), 0);
        check.same("text(0)", forge.text(0L), 0);
        check.same("the first character", forge.text(49L), 1);
    }
}
