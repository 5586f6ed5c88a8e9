/** The document's terms written out a second time, as plainly as they stand there, to compare answers with. */
final class Plain {
    final int m;
    final int n;
    final double[][] pa;
    final double[] pb;
    final double[] pc;
    final double[] R;
    final double[] S;
    final double[][] A;
    final double[] b;
    final double[] c;
    double[] x;
    double[] s;
    double[] y;
    int effort;

    Plain(double[][] pa, double[] pb, double[] pc, boolean scaling) {
        this.pa = pa;
        this.pb = pb;
        this.pc = pc;
        m = pb.length;
        n = pc.length;
        R = new double[m];
        S = new double[n];
        A = new double[m][n];
        b = new double[m];
        c = new double[n];
        for (int i = 0; i < m; i++) {
            double t = 0.0;
            for (int j = 0; j < n; j++) {
                t = Math.max(t, Math.abs(pa[i][j]));
            }
            R[i] = scaling ? power(t) : 1.0;
            b[i] = R[i] * pb[i];
        }
        for (int j = 0; j < n; j++) {
            double t = 0.0;
            for (int i = 0; i < m; i++) {
                t = Math.max(t, Math.abs(R[i] * pa[i][j]));
            }
            S[j] = scaling ? power(t) : 1.0;
            c[j] = pc[j] * S[j];
            for (int i = 0; i < m; i++) {
                A[i][j] = R[i] * pa[i][j] * S[j];
            }
        }
    }

    private static double power(double t) {
        return t == 0.0 ? 1.0 : Math.scalb(1.0, Math.getExponent(1.0 / t));
    }

    private static double max(double[] v) {
        double most = 0.0;
        for (double w : v) {
            most = Math.max(most, Math.abs(w));
        }
        return most;
    }

    private static double dot(double[] v, double[] w) {
        double sum = 0.0;
        for (int k = 0; k < v.length; k++) {
            sum += v[k] * w[k];
        }
        return sum;
    }

    /** -1 if singular. */
    int interior(int turns) {
        x = new double[n];
        s = new double[n];
        y = new double[m];
        java.util.Arrays.fill(x, 1.0);
        java.util.Arrays.fill(s, 1.0);
        for (effort = 1; effort <= turns; effort++) {
            int end = turn();
            if (end != 4) {
                unscale();
                return end;
            }
        }
        effort = turns;
        unscale();
        return 4;
    }

    private int turn() {
        double[] p = b.clone();
        for (int i = 0; i < m; i++) {
            for (int j = 0; j < n; j++) {
                p[i] -= A[i][j] * x[j];
            }
        }
        double[] d = c.clone();
        for (int j = 0; j < n; j++) {
            for (int i = 0; i < m; i++) {
                d[j] -= A[i][j] * y[i];
            }
            d[j] -= s[j];
        }
        double g = dot(x, s);
        double v = Math.abs(dot(c, x));
        if (max(p) <= 1e-8 * (1 + max(b)) && max(d) <= 1e-8 * (1 + max(c)) && g <= 1e-8 * (1 + v)) {
            return 0;
        }
        if (max(x) > 1e9 || max(s) > 1e9 || max(y) > 1e9) {
            return 3;
        }
        for (int j = 0; j < n; j++) {
            if (x[j] < 1e-12 || s[j] < 1e-12) {
                return 3;
            }
        }
        double u = 0.1 * (g / n);
        double[] h = new double[n];
        double[] f = new double[n];
        for (int j = 0; j < n; j++) {
            h[j] = x[j] / s[j];
            f[j] = x[j] - u / s[j] + h[j] * d[j];
        }
        double[] r = p.clone();
        for (int i = 0; i < m; i++) {
            for (int j = 0; j < n; j++) {
                r[i] += A[i][j] * f[j];
            }
        }
        double[] dy = direction(h, r);
        if (dy == null) {
            return -1;
        }
        double[] ds = d.clone();
        double[] dx = new double[n];
        double a = 1.0;
        double e = 1.0;
        for (int j = 0; j < n; j++) {
            for (int i = 0; i < m; i++) {
                ds[j] -= A[i][j] * dy[i];
            }
            dx[j] = u / s[j] - x[j] - h[j] * ds[j];
            a = dx[j] < 0 ? Math.min(a, 0.995 * (x[j] / -dx[j])) : a;
            e = ds[j] < 0 ? Math.min(e, 0.995 * (s[j] / -ds[j])) : e;
        }
        for (int j = 0; j < n; j++) {
            x[j] += a * dx[j];
            s[j] += e * ds[j];
        }
        for (int i = 0; i < m; i++) {
            y[i] += e * dy[i];
        }
        return 4;
    }

    private double[] direction(double[] h, double[] r) {
        double[][] low = new double[m][m];
        double[] dia = new double[m];
        for (int k = 0; k < m; k++) {
            for (int l = 0; l <= k; l++) {
                double w = 0.0;
                for (int j = 0; j < n; j++) {
                    w += A[k][j] * h[j] * A[l][j];
                }
                for (int q = 0; q < l; q++) {
                    w -= low[k][q] * dia[q] * low[l][q];
                }
                if (l < k) {
                    low[k][l] = w / dia[l];
                } else if (w <= 1e-13) {
                    return null;
                } else {
                    dia[k] = w;
                }
            }
        }
        double[] z = r.clone();
        for (int i = 0; i < m; i++) {
            for (int q = 0; q < i; q++) {
                z[i] -= low[i][q] * z[q];
            }
        }
        for (int i = 0; i < m; i++) {
            z[i] /= dia[i];
        }
        for (int i = m - 1; i >= 0; i--) {
            for (int q = i + 1; q < m; q++) {
                z[i] -= low[q][i] * z[q];
            }
        }
        return z;
    }

    private void unscale() {
        for (int j = 0; j < n; j++) {
            x[j] = S[j] * x[j];
            s[j] = s[j] / S[j];
        }
        for (int i = 0; i < m; i++) {
            y[i] = R[i] * y[i];
        }
    }

    private double[][] t;
    private int[] basic;

    /** The table's last column is b. */
    int simplex() {
        x = new double[n];
        s = new double[n];
        y = new double[m];
        effort = 0;
        int last = n + m;
        t = new double[m][last + 1];
        basic = new int[m];
        for (int i = 0; i < m; i++) {
            double turn = b[i] < 0 ? -1.0 : 1.0;
            for (int j = 0; j < n; j++) {
                t[i][j] = turn * A[i][j];
            }
            t[i][n + i] = 1.0;
            t[i][last] = turn * b[i];
            basic[i] = n + i;
        }
        double[] one = new double[last];
        java.util.Arrays.fill(one, n, last, 1.0);
        double[] two = java.util.Arrays.copyOf(c, last);
        int end = phase(one, false);
        if (end == 0) {
            double w = 0.0;
            for (int i = 0; i < m; i++) {
                w += one[basic[i]] * t[i][last];
            }
            if (w > 1e-7) {
                prices(one);
                end = 1;
            } else {
                end = phase(two, true);
                if (end == 0) {
                    for (int i = 0; i < m; i++) {
                        if (basic[i] < n) {
                            x[basic[i]] = t[i][last];
                        }
                    }
                    prices(two);
                    for (int j = 0; j < n; j++) {
                        s[j] = c[j];
                        for (int i = 0; i < m; i++) {
                            s[j] -= A[i][j] * y[i];
                        }
                    }
                }
            }
        }
        unscale();
        return end;
    }

    private void prices(double[] cost) {
        for (int i = 0; i < m; i++) {
            for (int k = 0; k < m; k++) {
                y[i] += cost[basic[k]] * t[k][n + i];
            }
            y[i] = b[i] < 0 ? -y[i] : y[i];
        }
    }

    private int phase(double[] cost, boolean second) {
        while (true) {
            int j = 0;
            while (j < n && !(reduced(cost, j) < -1e-9)) {
                j++;
            }
            if (j == n) {
                return 0;
            }
            int i = row(j, second);
            if (i < 0) {
                x[j] = 1.0;
                for (int k = 0; k < m; k++) {
                    if (basic[k] < n) {
                        x[basic[k]] = -t[k][j];
                    }
                }
                return 2;
            }
            if (effort == 200) {
                return 3;
            }
            effort++;
            double by = t[i][j];
            for (int l = 0; l <= n + m; l++) {
                t[i][l] /= by;
            }
            for (int k = 0; k < m; k++) {
                double times = t[k][j];
                for (int l = 0; l <= n + m && k != i; l++) {
                    t[k][l] -= times * t[i][l];
                }
            }
            basic[i] = j;
            for (int k = 0; k < m; k++) {
                if (max(t[k]) > 1e12) {
                    return 3;
                }
            }
        }
    }

    private double reduced(double[] cost, int j) {
        double q = cost[j];
        for (int i = 0; i < m; i++) {
            q -= cost[basic[i]] * t[i][j];
        }
        return q;
    }

    private int row(int j, boolean second) {
        int best = -1;
        for (int i = 0; i < m && second; i++) {
            if (basic[i] >= n && Math.abs(t[i][j]) > 1e-9) {
                return i;
            }
        }
        for (int i = 0; i < m; i++) {
            if (t[i][j] > 1e-9) {
                double mine = t[i][n + m] / t[i][j];
                double theirs = best < 0 ? Double.POSITIVE_INFINITY : t[best][n + m] / t[best][j];
                if (best < 0 || mine < theirs || mine == theirs && basic[i] < basic[best]) {
                    best = i;
                }
            }
        }
        return best;
    }

    double gap(int what) {
        double most = 0.0;
        switch (what) {
            case 0:
                for (int i = 0; i < m; i++) {
                    double left = pb[i];
                    for (int j = 0; j < n; j++) {
                        left -= pa[i][j] * x[j];
                    }
                    most = Math.max(most, Math.abs(left));
                }
                return most;
            case 1:
                for (int j = 0; j < n; j++) {
                    double left = pc[j];
                    for (int i = 0; i < m; i++) {
                        left -= pa[i][j] * y[i];
                    }
                    most = Math.max(most, Math.abs(left - s[j]));
                }
                return most;
            case 2:
                return dot(x, s);
            default:
                for (int j = 0; j < n; j++) {
                    most = Math.max(most, Math.max(-x[j], -s[j]));
                }
                return most;
        }
    }

    double cost() {
        return dot(pc, x);
    }

    double worth() {
        return dot(pb, y);
    }

    boolean certifies(int what, double e) {
        if (what == 0) {
            return gap(0) <= e && gap(1) <= e && gap(3) <= e && Math.abs(gap(2)) <= e;
        }
        boolean fine = what == 1 ? worth() > e : cost() < -e;
        for (int j = 0; j < n; j++) {
            double sum = 0.0;
            for (int i = 0; i < m; i++) {
                sum += pa[i][j] * y[i];
            }
            fine &= what == 1 ? sum <= e : x[j] >= -e;
        }
        for (int i = 0; i < m && what == 2; i++) {
            fine &= Math.abs(dot(pa[i], x)) <= e;
        }
        return fine;
    }
}
