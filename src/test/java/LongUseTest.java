/** "An object is used for at most 512 calls": the 512th is answered as the first would be. */
public final class LongUseTest {
    private static final int CALLS = 512;

    public static void main(String[] args) {
        Check check = new Check();
        asLastCall(check);
        refusedAllTheTime(check);
        readAllTheTime(check);
        check.end();
    }

    private static void asLastCall(Check check) {
        ConeForge forge = new ConeForge();
        Build.write(forge, "1 2 1 1 3 1 1 1");
        check.same("read", forge.read(), 8);
        int calls = 4;
        for (; calls < CALLS - 2; calls++) {
            int end = calls % 2 == 0 ? forge.simplex() : forge.interior(100);
            check.same("call " + calls, end, 0);
        }
        check.same("simplex", forge.simplex(), 0);
        check.same("x(0), the last call", forge.told(0, 0), 3.0);
    }

    private static void refusedAllTheTime(Check check) {
        ConeForge forge = new ConeForge();
        for (int calls = 1; calls < CALLS; calls++) {
            final int m = -calls;
            check.fails("begin(" + m + ", 1)", IllegalArgumentException.class, () -> forge.begin(m, 1));
        }
        check.same("begin, the last call", forge.begin(5, 8), 40);
    }

    private static void readAllTheTime(Check check) {
        ConeForge forge = new ConeForge();
        for (int calls = 0; calls + 2 < CALLS; calls += 2) {
            check.same("text", forge.text(0x3120312035203700L), 7);
            check.same("read", forge.read(), 4);
        }
        check.same("text", forge.text(0x3120312035203700L), 7);
        check.same("read, the last call", forge.read(), 4);
    }
}
