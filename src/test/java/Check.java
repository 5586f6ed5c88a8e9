/** Counts the answers of one test program that are not the ones that are due. */
final class Check {
    private int asked = 0;
    private int wrong = 0;

    void same(String what, long got, long due) {
        note(got == due, what, String.valueOf(got), String.valueOf(due));
    }

    void same(String what, boolean got, boolean due) {
        note(got == due, what, String.valueOf(got), String.valueOf(due));
    }

    /** A zero may have either sign; nothing else may differ in a bit. */
    void same(String what, double got, double due) {
        note(got == due, what, String.valueOf(got), String.valueOf(due));
    }

    void same(String what, String got, String due) {
        note(got.equals(due), what, got, due);
    }

    void fails(String what, Class<? extends RuntimeException> due, Runnable call) {
        String got = "nothing";
        try {
            call.run();
        } catch (RuntimeException e) {
            got = e.getClass().getName();
        }
        note(got.equals(due.getName()), what + " throws", got, due.getName());
    }

    private void note(boolean fine, String what, String got, String due) {
        asked++;
        if (!fine) {
            wrong++;
            System.out.println(what + " answered " + got + ", due is " + due);
        }
    }

    void end() {
        System.out.println(asked + " answers, " + wrong + " wrong");
        if (wrong != 0 || asked == 0) {
            System.exit(1);
        }
    }
}
