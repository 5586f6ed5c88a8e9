public final class Promise01NewObjectTest {
    public static void main(String[] args) {
        Check check = new Check();
        ConeForge forge = new ConeForge();
        check.same("m", forge.count(0), 1);
        check.same("n", forge.count(1), 1);
        check.same("characters", forge.count(2), 0);
        check.same("numbers of A", forge.count(3), 0);
        check.same("scaling is on", forge.count(4), 1);
        check.same("nothing told", forge.count(5), 0);
        check.same("where", forge.where(), -2);
        check.same("effort", forge.effort(), 0);
        check.fails("told", IllegalStateException.class, () -> forge.told(0, 0));
        check.same("A(0,0)", forge.set(0, 0, 0, 1.0), 0.0);
        check.same("b(0)", forge.set(1, 0, 0, 1.0), 0.0);
        check.same("c(0)", forge.set(2, 0, 0, 1.0), 0.0);
        check.same("scaling", forge.scaling(true), true);

        ConeForge first = new ConeForge();
        ConeForge second = new ConeForge();
        first.begin(2, 3);
        first.text(49L);
        check.same("objects share no m", second.count(0), 1);
        check.same("objects share no text", second.count(2), 0);
        check.end();
    }
}
