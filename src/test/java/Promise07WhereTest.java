public final class Promise07WhereTest {
    public static void main(String[] args) {
        Check check = new Check();
        ConeForge forge = new ConeForge();
        check.same("no read", forge.where(), -2);
        Build.write(forge, "1 1 x");
        check.same("still no read", forge.where(), -2);
        check.fails("read", IllegalArgumentException.class, forge::read);
        check.same("x", forge.where(), 4);
        check.same("asked again", forge.where(), 4);
        forge.begin(2, 2);
        forge.simplex();
        forge.text(32L);
        check.same("other calls leave it", forge.where(), 4);

        ConeForge later = new ConeForge();
        Build.write(later, "1 1 5");
        check.fails("read", IllegalArgumentException.class, later::read);
        check.same("the end is missing", later.where(), 5);
        Build.write(later, " 7");
        later.read();
        check.same("the latest did not fail", later.where(), -2);
        check.fails("read", IllegalArgumentException.class, later::read);
        check.same("an empty text", later.where(), 0);
        check.end();
    }
}
