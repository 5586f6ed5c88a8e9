public final class Promise05TextTest {
    public static void main(String[] args) {
        Check check = new Check();
        eachByte(check);
        order(check);
        full(check);
        refusedWhole(check);
        emptiedByRead(check);
        check.end();
    }

    private static void eachByte(Check check) {
        for (int place = 0; place < 8; place++) {
            for (int code = 0; code < 256; code++) {
                ConeForge forge = new ConeForge();
                long w = (long) code << 8 * place;
                String call = "text(" + w + ")";
                if (code == 0) {
                    check.same(call, forge.text(w), 0);
                } else if (code == 10 || code >= 32 && code <= 126) {
                    check.same(call, forge.text(w), 1);
                } else {
                    check.fails(call, IllegalArgumentException.class, () -> forge.text(w));
                    check.same(call + " changes nothing", forge.count(2), 0);
                }
            }
        }
        ConeForge forge = new ConeForge();
        check.fails("a good byte and a bad one", IllegalArgumentException.class, () -> forge.text(0x3109L));
        check.fails("all bits", IllegalArgumentException.class, () -> forge.text(-1L));
        check.same("nothing came", forge.count(2), 0);
    }

    /** "1 1 2 3 " with zeros between, then " 1 1 4": the problem tells the order. */
    private static void order(Check check) {
        ConeForge forge = new ConeForge();
        check.same("zeros left out", forge.text(0x3100200000312000L), 4);
        check.same("highest first", forge.text(0x0032200000003320L), 8);
        check.same("more", forge.text(0x2031203120340000L), 14);
        check.same("read", forge.read(), 7);
        check.same("c", forge.set(2, 0, 0, 0.0), 2.0);
        check.same("b", forge.set(1, 0, 0, 0.0), 3.0);
        check.same("A", forge.set(0, 0, 0, 0.0), 4.0);
    }

    private static void full(Check check) {
        ConeForge forge = new ConeForge();
        for (int k = 1; k <= 37; k++) {
            check.same("eight blanks", forge.text(0x2020202020202020L), 8 * k);
        }
        check.fails("five more", IllegalStateException.class, () -> forge.text(0x2020202020L));
        check.fails("five more with a bad one", IllegalArgumentException.class, () -> forge.text(0x2020202007L));
        check.same("nothing came", forge.count(2), 296);
        check.same("four more", forge.text(0x2020002020L), 300);
        check.same("none more", forge.text(0L), 300);
        for (int place = 0; place < 8; place++) {
            final long blank = 32L << 8 * place;
            check.fails("one more", IllegalStateException.class, () -> forge.text(blank));
        }
        check.fails("one bad more", IllegalArgumentException.class, () -> forge.text(1L));
        check.same("still 300", forge.count(2), 300);
        check.fails("read", IllegalArgumentException.class, forge::read);
        check.same("the end is missing", forge.where(), 300);
    }

    /** None of the characters of a refused call come, so that what is read later has none of them. */
    private static void refusedWhole(Check check) {
        ConeForge forge = new ConeForge();
        Build.write(forge, " ".repeat(287) + "1 1 5 7 1");
        check.same("characters", forge.count(2), 296);
        check.fails("' 1 23' is one too many", IllegalStateException.class, () -> forge.text(0x2031203233L));
        check.fails("' 1 ' and a 9", IllegalArgumentException.class, () -> forge.text(0x20312009L));
        check.fails("a 127 and ' 1 '", IllegalArgumentException.class, () -> forge.text(0x7F203120L));
        check.same("still", forge.count(2), 296);
        check.same("' 1 4' fits", forge.text(0x20312034L), 300);
        check.same("read", forge.read(), 7);
        check.same("A(0,0)", forge.set(0, 0, 0, 0.0), 4.0);
    }

    private static void emptiedByRead(Check check) {
        ConeForge forge = new ConeForge();
        Build.write(forge, "1 1 5 7" + " ".repeat(293));
        check.fails("full", IllegalStateException.class, () -> forge.text(32L));
        check.same("read", forge.read(), 4);
        check.same("the first of the next text", forge.text(49L), 1);
        Build.write(forge, " ".repeat(299));
        check.same("full again", forge.count(2), 300);
        check.fails("one more", IllegalStateException.class, () -> forge.text(32L));
    }
}
