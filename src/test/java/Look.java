import java.util.ArrayList;
import java.util.List;
import java.util.function.Supplier;

/** All that the calls of an object tell of it, one line a call; the object is used up by it. */
final class Look {
    private final ConeForge forge;
    private final List<String> lines = new ArrayList<>();

    private Look(ConeForge forge) {
        this.forge = forge;
    }

    /** Whether the touched object answers as the untouched one does; where is left out if it is told to be. */
    static void same(Check check, String name, ConeForge touched, ConeForge untouched, boolean withWhere) {
        List<String> got = all(touched, withWhere);
        List<String> due = all(untouched, withWhere);
        check.same(name + ": calls looked at", got.size(), due.size());
        for (int k = 0; k < due.size(); k++) {
            check.same(name + ": later call " + k, got.get(k), due.get(k));
        }
    }

    static List<String> all(ConeForge forge, boolean withWhere) {
        Look look = new Look(forge);
        if (withWhere) {
            look.add("where", forge::where);
        }
        look.quietCalls();
        look.solvings();
        int m = forge.count(0);
        int n = forge.count(1);
        look.numbers(m, n);
        look.add("scaling", () -> forge.scaling(true));
        look.add("read", forge::read);
        look.add("where", forge::where);
        look.counts();
        look.numbers(forge.count(0), forge.count(1));
        return look.lines;
    }

    private void add(String call, Supplier<Object> answer) {
        String told;
        try {
            told = String.valueOf(answer.get());
        } catch (RuntimeException e) {
            told = "throws " + e.getClass().getSimpleName();
        }
        lines.add(call + " " + told);
    }

    private void counts() {
        for (int what = 0; what < 6; what++) {
            final int w = what;
            add("count(" + w + ")", () -> forge.count(w));
        }
    }

    /** Those that change nothing. */
    private void quietCalls() {
        counts();
        add("effort", forge::effort);
        for (int k = 0; k < 8; k++) {
            final int at = k;
            add("scale(0, " + k + ")", () -> forge.scale(0, at));
            add("scale(1, " + k + ")", () -> forge.scale(1, at));
        }
        point();
        for (int what = 0; what < 4; what++) {
            final int w = what;
            add("gap(" + w + ")", () -> forge.gap(w));
            add("certifies(" + w % 3 + ", 0.25)", () -> forge.certifies(w % 3, 0.25));
        }
    }

    private void point() {
        for (int what = 0; what < 5; what++) {
            for (int j = 0; j < 8; j++) {
                final int w = what;
                final int at = j;
                add("told(" + w + ", " + at + ")", () -> forge.told(w, at));
            }
        }
    }

    private void solvings() {
        add("simplex", forge::simplex);
        point();
        add("interior(20)", () -> forge.interior(20));
        add("effort", forge::effort);
        point();
    }

    /** What each number was; all are 0 then. */
    private void numbers(int m, int n) {
        for (int i = 0; i < m; i++) {
            final int row = i;
            add("b(" + i + ")", () -> forge.set(1, row, 0, 0.0));
            for (int j = 0; j < n; j++) {
                final int column = j;
                add("A(" + i + "," + j + ")", () -> forge.set(0, row, column, 0.0));
            }
        }
        for (int j = 0; j < n; j++) {
            final int column = j;
            add("c(" + j + ")", () -> forge.set(2, 0, column, 0.0));
        }
    }
}
