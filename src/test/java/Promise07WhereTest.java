public final class Promise07WhereTest {
    public static void main(String[] args) {
        Check check = new Check();
        ConeForge forge = new ConeForge();
        check.same("no read", forge.where(), -2);
        Build.write(forge, "1 1 x");
        check.same("still no read", forge.where(), -2);
        check.fails("read", IllegalArgumentException.class, forge::read);
        check.same("x", forge.where(), 4);
        check.same("asked again", forge.where(), 4);
        forge.begin(2, 2);
        forge.simplex();
        forge.text(32L);
        check.same("other calls leave it", forge.where(), 4);

        ConeForge later = new ConeForge();
        Build.write(later, "1 1 5");
        check.fails("read", IllegalArgumentException.class, later::read);
        check.same("the end is missing", later.where(), 5);
        Build.write(later, " 7");
        later.read();
        check.same("the latest did not fail", later.where(), -2);
        check.fails("read", IllegalArgumentException.class, later::read);
        check.same("an empty text", later.where(), 0);
        Build.write(later, "1 1 5 7 1 2 3");
        check.fails("read", IllegalArgumentException.class, later::read);
        check.same("a number not as said", later.where(), 10);
        check.fails("text(9)", IllegalArgumentException.class, () -> later.text(9L));
        check.fails("begin(0, 1)", IllegalArgumentException.class, () -> later.begin(0, 1));
        check.fails("interior(0)", IllegalArgumentException.class, () -> later.interior(0));
        check.same("refused calls leave it", later.where(), 10);
        later.begin(1, 1);
        later.set(2, 0, 0, 1.0);
        check.fails("singular", ArithmeticException.class, () -> later.interior(1));
        check.same("and other calls too", later.where(), 10);
        check.end();
    }
}
