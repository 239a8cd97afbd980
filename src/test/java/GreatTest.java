import java.util.Random;

/** The greatest bound: answers beside rows that are made by adding along multiples. */
public final class GreatTest {
    private static final int N = 200000;
    private static final String TEXT = "bound 200000;own f;at f 1 -3 2;at f 2 999 -999;at f 3 5 5;times g f sigma;"
        + "over h g;twist t phi 3;point p t h;times q p t;";

    private final QuotientSums q;
    private final long m;
    private final int[] least = new int[N + 1];
    private final int[] greatest = new int[N + 1];
    private final long[][] rows = new long[12][];
    private final long[] couples = new long[N + 1];

    private GreatTest(long m) {
        this.m = m;
        q = Check.told(TEXT);
        Check.due("modulus", q.modulus((int) m), 1000003);
        sieve();
        known();
        rows[6] = own();
        rows[7] = times(rows[6], rows[5]);
        rows[8] = over(rows[7]);
        rows[9] = twisted(rows[3]);
        rows[10] = point(rows[9], rows[8]);
        rows[11] = times(rows[10], rows[9]);
    }

    public static void main(String[] args) {
        for (long m : new long[] {1000003, 2, 97, 65536}) {
            new GreatTest(m).go();
        }
        Check.finish("GreatTest");
    }

    private void sieve() {
        for (int p = 2; p <= N; p++) {
            if (least[p] == 0) {
                for (int n = p; n <= N; n += p) {
                    least[n] = least[n] == 0 ? p : least[n];
                    greatest[n] = p;
                }
            }
        }
    }

    private void known() {
        for (int f = 0; f < 6; f++) {
            rows[f] = new long[N + 1];
        }
        long[] phi = new long[N + 1];
        long[] mu = new long[N + 1];
        mu[1] = 1;
        for (int n = 1; n <= N; n++) {
            phi[n] += n;
            for (int k = 2 * n; k <= N; k += n) {
                phi[k] -= phi[n];
                mu[k] -= mu[n];
            }
            couples[n] = couples[n - 1] + (n == 1 ? 1 : 2 * phi[n]);
            rows[0][n] = 1;
            rows[1][n] = n % m;
            rows[2][n] = Math.floorMod(mu[n], m);
            rows[3][n] = phi[n] % m;
            for (int k = n; k <= N; k += n) {
                rows[4][k] = (rows[4][k] + 1) % m;
                rows[5][k] = (rows[5][k] + n) % m;
            }
        }
    }

    private long[] own() {
        long[][] at = {{0, 0}, {-3, 2}, {999, -999}, {5, 5}};
        long[] row = new long[N + 1];
        for (int n = 1; n <= N; n++) {
            long product = 1;
            int rest = n;
            while (rest > 1) {
                int p = least[rest];
                int k = 0;
                for (; rest % p == 0; rest /= p) {
                    k++;
                }
                product = k > 3 ? 0 : Math.floorMod(product * Math.floorMod(at[k][0] + at[k][1] * p, m), m);
            }
            row[n] = product;
        }
        return row;
    }

    private long[] times(long[] a, long[] b) {
        long[] row = new long[N + 1];
        for (int d = 1; d <= N; d++) {
            for (int e = 1; d * (long) e <= N; e++) {
                row[d * e] = (row[d * e] + a[d] * b[e]) % m;
            }
        }
        return row;
    }

    private long[] over(long[] a) {
        long[] row = new long[N + 1];
        row[1] = 1;
        for (int d = 1; d <= N; d++) {
            for (int e = 2; d * (long) e <= N; e++) {
                row[d * e] = Math.floorMod(row[d * e] - row[d] * a[e], m);
            }
        }
        return row;
    }

    private long[] twisted(long[] a) {
        long[] row = new long[N + 1];
        for (int n = 1; n <= N; n++) {
            row[n] = n % 3 == 0 ? 0 : n % 3 == 1 ? a[n] : Math.floorMod(-a[n], m);
        }
        return row;
    }

    private long[] point(long[] a, long[] b) {
        long[] row = new long[N + 1];
        for (int n = 1; n <= N; n++) {
            row[n] = a[n] * b[n] % m;
        }
        return row;
    }

    private boolean isFull(int n) {
        int rest = n;
        while (rest > 1) {
            int p = least[rest];
            int k = 0;
            for (; rest % p == 0; rest /= p) {
                k++;
            }
            if (k < 2) {
                return false;
            }
        }
        return true;
    }

    private void go() {
        Random random = new Random(m);
        for (int round = 0; round < 3; round++) {
            for (int f = 0; f < 12; f++) {
                int x = round == 0 ? N : 1 + random.nextInt(N);
                sums(f, x, 1 + random.nextInt(x));
                sorts(f, x, round == 1 ? 1 + random.nextInt(N) : 1 + random.nextInt(600));
                couples(f, random.nextInt(12), x);
                searches(f, x, (int) rows[f][1 + random.nextInt(x)]);
            }
        }
        fulls();
        primes();
        quotients();
    }

    private void sums(int f, int x, int a) {
        long total = 0;
        long part = 0;
        for (int n = 1; n <= x; n++) {
            total += rows[f][n];
            part += n >= a ? rows[f][n] : 0;
        }
        due("sum", f, x, q.sum(f, x), total % m);
        due("range from " + a, f, x, q.range(f, a, x), part % m);
        due("value", f, x, q.value(f, x), rows[f][x]);
        due("value", f, a, q.value(f, a), rows[f][a]);
    }

    private void sorts(int f, int x, int y) {
        long smooth = 0;
        long rough = 0;
        long full = 0;
        for (int n = 1; n <= x; n++) {
            smooth += n == 1 || greatest[n] <= y ? rows[f][n] : 0;
            rough += n == 1 || least[n] > y ? rows[f][n] : 0;
            full += isFull(n) ? rows[f][n] : 0;
        }
        due("smooth by " + y, f, x, q.smooth(f, x, y), smooth % m);
        due("rough by " + y, f, x, q.rough(f, x, y), rough % m);
        due("fullSum", f, x, q.fullSum(f, x), full % m);
    }

    private void couples(int f, int g, int x) {
        long[] sums = new long[x + 1];
        for (int n = 1; n <= x; n++) {
            sums[n] = (sums[n - 1] + rows[g][n]) % m;
        }
        long hyper = 0;
        long common = 0;
        long blocks = 0;
        for (int d = 1; d <= x; d++) {
            hyper = (hyper + rows[f][d] * sums[x / d]) % m;
            common = (common + rows[f][d] * (couples[x / d] % m)) % m;
            blocks += sums[x / d];
        }
        due("hyper with " + g, f, x, q.hyper(f, g, x), hyper);
        due("common", f, x, q.common(f, x), common);
        due("blocks", g, x, q.blocks(g, x), blocks % m);
        due("coprime", f, x, q.coprime(x), couples[x]);
    }

    private void searches(int f, int x, int r) {
        long total = 0;
        int first = -2;
        int many = 0;
        int best = 1;
        int bestSum = 1;
        long most = 1;
        long mostSum = 1;
        for (int n = 1; n <= N; n++) {
            total = (total + rows[f][n]) % m;
            first = first == -2 && total == r ? n : first;
            if (n <= x) {
                many += rows[f][n] == r ? 1 : 0;
                best = rows[f][n] > most ? n : best;
                most = Math.max(most, rows[f][n]);
                bestSum = total > mostSum ? n : bestSum;
                mostSum = Math.max(mostSum, total);
            }
        }
        due("first", f, r, q.first(f, r), first);
        due("howMany of " + r, f, x, q.howMany(f, x, r), many);
        due("best", f, x, q.best(f, x, false), best);
        due("best sum", f, x, q.best(f, x, true), bestSum);
        for (int g = 0; g < 12; g++) {
            int parts = -2;
            for (int n = 1; n <= N && parts == -2; n++) {
                parts = rows[f][n] != rows[g][n] ? n : -2;
            }
            due("parts with " + g, f, 0, q.parts(f, g), parts);
        }
    }

    private void fulls() {
        int full = 0;
        int free = 0;
        for (int n = 1; n <= N; n++) {
            boolean isFree = true;
            for (int rest = n; rest > 1 && isFree; rest /= least[rest]) {
                isFree = rest / least[rest] % least[rest] != 0;
            }
            free += isFree ? 1 : 0;
            if (isFull(n)) {
                due("full", 0, full, q.full(full), n);
                full++;
            }
            if (n % 9973 == 0 || n == N) {
                due("many full", 1, n, q.many(1, n), full);
                due("many free", 0, n, q.many(0, n), free);
            }
        }
        due("full", 0, full, q.full(full), -2);
    }

    private void primes() {
        long[] totals = new long[4];
        int last = 0;
        for (int n = 2; n <= N; n++) {
            if (least[n] == n) {
                last = n;
                long power = 1;
                for (int j = 0; j < 4; j++) {
                    totals[j] = (totals[j] + power) % m;
                    power = power * n % m;
                }
            }
            if (n % 19997 == 0 || n == N) {
                for (int j = 0; j < 4; j++) {
                    due("primes", j, n, q.primes(j, n), totals[j]);
                }
            }
        }
        Check.due("count(6)", q.count(6), last);
    }

    private void quotients() {
        for (int x : new int[] {N, N - 1, 199809, 199808, 199362, 199361}) {
            int i = 0;
            for (int d = 1; d <= x; d = x / (x / d) + 1) {
                due("quotient", x, i, q.quotient(x, i), x / d);
                due("block", x, i, q.block(x, i, false), d);
                due("last of block", x, i, q.block(x, i, true), x / (x / d));
                i++;
            }
            due("quotients", x, 0, q.quotients(x), i);
            due("quotient", x, i, q.quotient(x, i), -2);
        }
    }

    private void due(String call, int f, int x, long got, long want) {
        Check.due("modulus " + m + ", " + call + " (" + f + ", " + x + ")", got, want);
    }
}
