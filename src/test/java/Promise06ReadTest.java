public final class Promise06ReadTest {
    public static void main(String[] args) {
        Check check = new Check();
        numbers(check);
        wrongTexts(check);
        forms(check);
        leftOut(check);
        whole(check);
        fullTexts(check);
        sizes(check);
        places(check);
        digits(check);
        values(check);
        success(check);
        failure(check);
        failureKeepsAll(check);
        check.end();
    }

    /** 2 rows, 3 variables, and A(1,2) told twice: the later one counts. */
    private static void numbers(Check check) {
        ConeForge forge = new ConeForge();
        forge.begin(5, 8);
        forge.set(0, 0, 0, 9.0);
        Build.write(forge, "2 3 1 -2.5 0 4 -5.125\n1 2 3\n2 3 0.01 1 2 -7.05");
        check.same("read", forge.read(), 2 + 3 + 2 + 9);
        check.same("m", forge.count(0), 2);
        check.same("n", forge.count(1), 3);
        check.same("numbers of A", forge.count(3), 2);
        check.same("text", forge.count(2), 0);
        check.same("c(0)", forge.set(2, 0, 0, 0.0), 1.0);
        check.same("c(1)", forge.set(2, 0, 1, 0.0), -2.5);
        check.same("c(2)", forge.set(2, 0, 2, 0.0), 0.0);
        check.same("b(0)", forge.set(1, 0, 0, 0.0), 4.0);
        check.same("b(1)", forge.set(1, 1, 0, 0.0), -5.125);
        check.same("A(0,0)", forge.set(0, 0, 0, 0.0), 0.0);
        check.same("A(0,1)", forge.set(0, 0, 1, 0.0), -7.05);
        check.same("A(1,2)", forge.set(0, 1, 2, 0.0), 0.01);
    }

    private static void wrong(Check check, String text, int where) {
        ConeForge forge = new ConeForge();
        Build.write(forge, text);
        String call = "'" + text + "'";
        check.fails(call, IllegalArgumentException.class, forge::read);
        check.same(call + " where", forge.where(), where);
        check.same(call + " keeps the text", forge.count(2), text.length());
        check.same(call + " keeps m", forge.count(0), 1);
        check.same(call + " keeps n", forge.count(1), 1);
        check.same(call + " keeps A", forge.count(3), 0);
    }

    private static void wrongTexts(Check check) {
        String[] missing = {"", " ", "\n", "1", "1 ", "1 1", "1 1 5", "1 1 5 ", "1 1 -", "1 1 5.", "1 1 5 -",
            "1 1 5 7.", "1 1 5 7 1", "1 1 5 7 1 ", "1 1 5 7 1 1", "1 1 5 7 1 1 -", "1 1 5 7 1 1 2.", "2 1 5 7",
            "1 2 5 7", "* nothing", "1 1 5\n* 7", "1 1 5 7 1 1 2 1"};
        for (String text : missing) {
            wrong(check, text, text.length());
        }
        String[] sized = {"0", "6", "12", "9999", "0000", "6 1 1 1", "9 x"};
        for (String text : sized) {
            wrong(check, text, 0);
            wrong(check, "\n " + text, 2);
        }
        String[] variables = {"5 0", "5 9", "5 10", "5 0009 1"};
        for (String text : variables) {
            wrong(check, text, 2);
        }
        String[] row = {"1 1 5 7 0 1 2", "1 1 5 7 2 1 2", "1 1 5 7 0", "1 1 5 7 2 x", "1 1 5 7 10 1 2"};
        for (String text : row) {
            wrong(check, text, 8);
        }
        String[] column = {"1 1 5 7 1 0 2", "1 1 5 7 1 2 2", "1 1 5 7 1 9999", "1 1 5 7 1 2 2x"};
        for (String text : column) {
            wrong(check, text, 10);
        }
        wrong(check, "1 1 1 5 1 2 3", 10);
    }

    private static void forms(Check check) {
        wrong(check, "x", 0);
        wrong(check, "-1 1 5 7", 0);
        wrong(check, "+1 1 5 7", 0);
        wrong(check, ".5", 0);
        wrong(check, "1. 1 5 7", 1);
        wrong(check, "1.0 1 5 7", 1);
        wrong(check, "6.", 1);
        wrong(check, "6x", 1);
        wrong(check, "1-", 1);
        wrong(check, "00001 1 5 7", 4);
        wrong(check, "1 -1 5 7", 2);
        wrong(check, "1 1.", 3);
        wrong(check, "1,1", 1);
        wrong(check, "1 1 .5 7", 4);
        wrong(check, "1 1 --5 7", 5);
        wrong(check, "1 1 - 5 7", 5);
        wrong(check, "1 1 -.5 7", 5);
        wrong(check, "1 1 5. 7", 6);
        wrong(check, "1 1 5.\n7", 6);
        wrong(check, "1 1 5.x 7", 6);
        wrong(check, "1 1 5.-1 7", 6);
        wrong(check, "1 1 5.5. 7", 7);
        wrong(check, "1 1 00005 7", 8);
        wrong(check, "1 1 -00005 7", 9);
        wrong(check, "1 1 5.1234 7", 9);
        wrong(check, "1 1 5e3 7", 5);
        wrong(check, "1 1 5-3 7", 5);
        wrong(check, "1 1 5 7 -1 1 2", 8);
        wrong(check, "1 1 5 7 1.0 1 2", 9);
        wrong(check, "1 1 5 7 1 -1 2", 10);
        wrong(check, "1 1 5 7 1 1.5 2", 11);
        wrong(check, "1 1 5 7 1 1 2 x", 14);
        wrong(check, "1 1 5 7 1 1 2*", 13);
        wrong(check, "1 1 -0.125 1.5.", 14);
        wrong(check, "1 1 1000.001 7", 4);
        wrong(check, "1 1 -1001 7", 4);
        wrong(check, "1 1 5 9999", 6);
        wrong(check, "1 1 5 7 1 1 1000.5", 12);
        wrong(check, "1 1 1000.5x 7", 10);
        good(check, "1 1 1000 -1000.000 1 1 1000.0", 7, 1000.0, -1000.0, 1000.0);
        good(check, "0001 01 0000.001 -0.1 1 1 -999.999", 7, 0.001, -0.1, -999.999);
        good(check, "1 1 -0 -0.000 1 1 0.07", 7, 0.0, 0.0, 0.07);
        good(check, "\n\n  1\n\n1 5\n \n7 \n\n ", 4, 5.0, 7.0, 0.0);
    }

    private static void good(Check check, String text, int numbers, double c, double b, double a) {
        ConeForge forge = new ConeForge();
        Build.write(forge, text);
        check.same("'" + text + "'", forge.read(), numbers);
        check.same("'" + text + "' where", forge.where(), -2);
        check.same("'" + text + "' c", forge.set(2, 0, 0, 0.0), c);
        check.same("'" + text + "' b", forge.set(1, 0, 0, 0.0), b);
        check.same("'" + text + "' A", forge.set(0, 0, 0, 0.0), a);
    }

    private static void leftOut(Check check) {
        good(check, "* 9 9 x\n1 1\n*\n5\n** 4 *\n7\n* end", 4, 5.0, 7.0, 0.0);
        good(check, "1 1 5 7 1\n*1\n1\n*2\n3\n*", 7, 5.0, 7.0, 3.0);
        wrong(check, " * 9\n1 1 5 7", 1);
        wrong(check, "1 *\n1 5 7", 2);
        wrong(check, "1 1 5 7 *", 8);
        wrong(check, "* 1 1 5 7", 9);
        wrong(check, "* a\n6 1 5 7", 4);
    }

    /** All digits that may stand behind the point, to the last bit. */
    private static void whole(Check check) {
        ConeForge forge = new ConeForge();
        for (int k = 0; k < 1000; k += 37) {
            String digits = String.valueOf(1000 + k).substring(1);
            Build.write(forge, "1 1 3." + digits + " -7." + digits.substring(0, 2) + " 1 1 0." + digits.charAt(0));
            forge.read();
            check.same("3." + digits, forge.set(2, 0, 0, 0.0), (3000 + k) / 1000.0);
            check.same("-7." + digits.substring(0, 2), forge.set(1, 0, 0, 0.0), -((700 + k / 10) / 100.0));
            check.same("0." + digits.charAt(0), forge.set(0, 0, 0, 0.0), k / 100 / 10.0);
        }
    }

    /** Texts of 300 characters, whose end is also the end of the room for them. */
    private static void fullTexts(Check check) {
        String[] ends = {"1 1 5 7 1 1 2", "1 1 5 7 1 1 2.125", "1 1 5 7 1 1 1000"};
        double[] due = {2.0, 2.125, 1000.0};
        for (int k = 0; k < ends.length; k++) {
            good(check, " ".repeat(300 - ends[k].length()) + ends[k], 7, 5.0, 7.0, due[k]);
        }
        String[] broken = {"1", "1 1 5 -", "1 1 5 7.", "1 1 5 7 1", "1 1 5 7 1 1"};
        for (String end : broken) {
            wrong(check, " ".repeat(300 - end.length()) + end, 300);
        }
        good(check, "1 1 5 7" + " 1 1 2".repeat(47) + " 1 1 0.125", 4 + 3 * 48, 5.0, 7.0, 0.125);
    }

    /** m is 1 to 5 and n is 1 to 8, and there are n of c and m of b: with one fewer the end is missing. */
    private static void sizes(Check check) {
        for (int m = 0; m <= 12; m++) {
            for (int n = 0; n <= 12; n++) {
                String begin = m + " " + n;
                if (m < 1 || m > 5) {
                    wrong(check, begin, 0);
                } else if (n < 1 || n > 8) {
                    wrong(check, begin, 2);
                } else {
                    sized(check, m, n);
                }
            }
        }
    }

    private static void sized(Check check, int m, int n) {
        String few = m + " " + n + " 7".repeat(m + n - 1);
        wrong(check, few, few.length());
        ConeForge forge = new ConeForge();
        Build.write(forge, few + " 9");
        check.same("'" + few + " 9'", forge.read(), 2 + m + n);
        check.same("m", forge.count(0), m);
        check.same("n", forge.count(1), n);
        check.same("the last b", forge.set(1, m - 1, 0, 0.0), 9.0);
        check.same("the last c", forge.set(2, 0, n - 1, 0.0), 7.0);
    }

    /** i is 1 to m and j is 1 to n. */
    private static void places(Check check) {
        String begin = "2 3 7 7 7 7 7 ";
        for (int i = 0; i <= 10; i++) {
            for (int j = 0; j <= 10; j++) {
                String text = begin + i + " " + j + " 4";
                if (i < 1 || i > 2) {
                    wrong(check, text, 14);
                } else if (j < 1 || j > 3) {
                    wrong(check, text, 16);
                } else {
                    ConeForge forge = new ConeForge();
                    Build.write(forge, text);
                    check.same("'" + text + "'", forge.read(), 10);
                    check.same("numbers of A", forge.count(3), 1);
                    check.same("A(" + i + "," + j + ")", forge.set(0, i - 1, j - 1, 0.0), 4.0);
                }
            }
        }
        ConeForge twice = new ConeForge();
        Build.write(twice, "1 1 5 7 1 1 2 1 1 0");
        check.same("told twice", twice.read(), 10);
        check.same("the later one is 0", twice.count(3), 0);
    }

    /** "one to four digits, perhaps . and one to three digits". */
    private static void digits(Check check) {
        for (int whole = 0; whole <= 6; whole++) {
            for (int part = 0; part <= 5; part++) {
                String number = "0".repeat(Math.max(0, whole - 1)) + (whole > 0 ? "6" : "")
                        + (part > 0 ? "." + "1234567".substring(0, part) : "");
                if (whole == 0) {
                    wrong(check, "1 1 " + number + " 7", part > 0 ? 4 : 6);
                } else if (whole > 4) {
                    wrong(check, "1 1 " + number + " 7", 8);
                    wrong(check, "1 1 -" + number + " 7", 9);
                } else if (part > 3) {
                    wrong(check, "1 1 " + number + " 7", 4 + whole + 4);
                } else {
                    double due = Double.parseDouble(number);
                    good(check, "1 1 " + number + " -" + number + " 1 1 " + number, 7, due, -due, due);
                }
            }
        }
        for (int zeros = 0; zeros <= 3; zeros++) {
            String one = "0".repeat(zeros) + "1";
            good(check, one + " " + one + " 5 7 " + one + " " + one + " 2", 7, 5.0, 7.0, 2.0);
        }
        wrong(check, "00001 1 5 7", 4);
        wrong(check, "1 00001 5 7", 6);
        wrong(check, "1 1 5 7 00001 1 2", 12);
        wrong(check, "1 1 5 7 1 00001 2", 14);
    }

    /** As with set, nothing above 1000 and nothing below -1000: as c, as b, and as A. */
    private static void values(Check check) {
        String[] most = {"1000", "1000.0", "1000.00", "1000.000", "999.999", "0999.999"};
        for (String number : most) {
            double due = Double.parseDouble(number);
            good(check, "1 1 " + number + " -" + number + " 1 1 " + number, 7, due, -due, due);
            good(check, "1 1 -" + number + " " + number + " 1 1 -" + number, 7, -due, due, -due);
        }
        String[] more = {"1000.001", "1000.01", "1000.1", "1001", "9999", "9999.999"};
        for (String number : more) {
            wrong(check, "1 1 " + number + " 7", 4);
            wrong(check, "1 1 -" + number + " 7", 4);
            wrong(check, "1 1 5 " + number, 6);
            wrong(check, "1 1 5 -" + number, 6);
            wrong(check, "1 1 5 7 1 1 " + number, 12);
            wrong(check, "1 1 5 7 1 1 -" + number, 12);
        }
    }

    private static void success(Check check) {
        ConeForge forge = Build.solvable();
        forge.scaling(false);
        forge.simplex();
        Build.write(forge, "5 8 1 2 3 4 5 6 7 8 9 10 11 12 13 5 8 14");
        check.same("read", forge.read(), 18);
        check.same("told no more", forge.count(5), 0);
        check.same("scaling", forge.count(4), 0);
        check.same("effort", forge.effort(), 2);
        check.same("numbers of A", forge.count(3), 1);
        check.same("c(7)", forge.set(2, 0, 7, 0.0), 8.0);
        check.same("b(0)", forge.set(1, 0, 0, 0.0), 9.0);
        check.same("b(4)", forge.set(1, 4, 0, 0.0), 13.0);
        check.same("A(4,7)", forge.set(0, 4, 7, 0.0), 14.0);
        check.fails("the text is empty", IllegalArgumentException.class, forge::read);
        check.same("where", forge.where(), 0);
    }

    private static void failure(Check check) {
        ConeForge forge = Build.solvable();
        forge.simplex();
        Build.write(forge, "1 1 5 7 1 1 2 1");
        check.fails("read", IllegalArgumentException.class, forge::read);
        check.same("told behind a read that threw", forge.told(0, 0), 3.0);
        check.same("m", forge.count(0), 2);
        check.same("numbers of A", forge.count(3), 6);
        check.same("b(1)", forge.set(1, 1, 0, 1.0), 6.0);
        Build.write(forge, " 1 4");
        check.same("read when the end has come", forge.read(), 10);
        check.same("A(0,0)", forge.set(0, 0, 0, 1.0), 4.0);
    }

    /** A text that fails with its last number, when all the others were taken already. */
    private static void failureKeepsAll(Check check) {
        String[] texts = {"1 1 5 7 1 1 2000", "5 8 1 2 3 4 5 6 7 8 9 10 11 12 13 5 8 14 1 1", "2 4 9 9 9 9 9 9 1 1 8 2 5"};
        for (String text : texts) {
            ConeForge touched = Build.solvable();
            touched.interior(5);
            Build.write(touched, text);
            check.fails("'" + text + "'", IllegalArgumentException.class, touched::read);
            ConeForge untouched = Build.solvable();
            untouched.interior(5);
            Build.write(untouched, text);
            Look.same(check, "'" + text + "'", touched, untouched, false);
        }
    }
}
