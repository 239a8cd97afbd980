/** Promises 11 to 26: VALUES and SUMS, QUOTIENTS, couples, and numbers of one sort. */
final class SumSentences {
    private static final int M = 1000003;
    private static final Twins BUSY = Twins.busy();
    private static final Twins WIDE = Twins.wide();
    private static final String NO_SUCH_ONES = "NONE: no such ones.";

    private SumSentences() {
    }

    static void run() {
        value();
        atPower();
        sum();
        range();
        primes();
        quotients();
        quotient();
        block();
        hyper();
        common();
        coprime();
        many();
        full();
        fullSum();
        smooth();
        rough();
    }

    /** What a busy object's FUNCTION is at n, with what the text and set tell: at primes 3 and 4p, at squares 5 and 6p. */
    private static long busyValue(int f, int n) {
        return BUSY.one().value(f, n);
    }

    private static long busyTogether(int f, int a, int b) {
        QuotientSums q = BUSY.one();
        long total = 0;
        for (int n = a; n <= b; n++) {
            total += q.value(f, n);
        }
        return total % 97;
    }

    private static void value() {
        Doc.open("Promise 11:");
        Doc.says("VALUE of a FUNCTION at n 1 .. BOUND;");
        long[] at12 = {1, 12, 0, 4, 6, 28, (5 + 12) * (3 + 12), 0, (1 + 11 + 17) * (1 + 15)};
        for (int f = 0; f < 9; f++) {
            int function = f;
            BUSY.answers("value(" + f + ", 12)", at12[f] % 97, q -> q.value(function, 12));
        }
        Doc.says(NO_SUCH_ONES);
        BUSY.ends("value(1, n)", 1, 50, -1, (q, n) -> q.value(1, n), n -> n);
        BUSY.ends("value(f, 12)", 0, 8, -1, (q, f) -> q.value(f, 12), f -> at12[f] % 97);
        WIDE.ends("value(1, n)", 1, 200000, -1, (q, n) -> q.value(1, n), n -> n);
        WIDE.ends("value(3, n)", 1, 200000, -1, (q, n) -> q.value(3, n), SumSentences::phiOf);
        WIDE.ends("value(f, 2)", 0, 6, -1, (q, f) -> q.value(f, 2), f -> new int[] {1, 2, M - 1, 1, 2, 3, 1}[f]);
    }

    private static long phiOf(int n) {
        long phi = n;
        int rest = n;
        for (int p = 2; p <= rest; p++) {
            if (rest % p == 0) {
                phi = phi / p * (p - 1);
            }
            while (rest % p == 0) {
                rest /= p;
            }
        }
        return phi;
    }

    private static void atPower() {
        Doc.open("Promise 12:");
        Doc.says("Its VALUE at the k-th power, 0 .. 17, of p 2 .. 200003, as if p were a prime;");
        Twins least = Twins.told("bound 1;own f;at f 1 3 4;over g f;");
        for (int f = 0; f < 8; f++) {
            int function = f;
            least.answers("at the 0-th power", 1, q -> q.atPower(function, 2, 0));
            least.answers("at the 0-th power", 1, q -> q.atPower(function, 200003, 0));
        }
        least.answers("phi of 10, as if it were a prime", 90, q -> q.atPower(3, 10, 2));
        least.answers("sigma of 6, as if it were a prime", 43, q -> q.atPower(5, 6, 2));
        least.answers("mu of 4, as if it were a prime", M - 1, q -> q.atPower(2, 4, 1));
        least.answers("own of 9, as if it were a prime", 39, q -> q.atPower(6, 9, 1));
        Doc.says(NO_SUCH_ONES);
        least.ends("atPower(4, 2, k)", 0, 17, -1, (q, k) -> q.atPower(4, 2, k), k -> k + 1);
        least.ends("atPower(1, 2, k)", 0, 17, -1, (q, k) -> q.atPower(1, 2, k), k -> 1L << k);
        least.ends("atPower(1, p, 1)", 2, 200003, -1, (q, p) -> q.atPower(1, p, 1), p -> p);
        least.ends("atPower(3, p, 1)", 2, 200003, -1, (q, p) -> q.atPower(3, p, 1), p -> p - 1);
        least.ends("atPower(1, p, 0)", 2, 200003, -1, (q, p) -> q.atPower(1, p, 0), p -> 1);
        least.ends("atPower(f, 2, 1)", 0, 7, -1, (q, f) -> q.atPower(f, 2, 1),
            f -> new int[] {1, 2, M - 1, 1, 2, 3, 11, M - 11}[f]);
    }

    private static void sum() {
        Doc.open("Promise 13:");
        Doc.says("SUM up to x 0 .. BOUND;");
        BUSY.answers("sum(5, 0)", 0, q -> q.sum(5, 0));
        BUSY.answers("sum(5, 1)", 1, q -> q.sum(5, 1));
        BUSY.answers("sum(5, 10)", 87, q -> q.sum(5, 10));
        Doc.says(NO_SUCH_ONES);
        BUSY.ends("sum(0, x)", 0, 50, -1, (q, x) -> q.sum(0, x), x -> x);
        BUSY.ends("sum(8, x)", 0, 50, -1, (q, x) -> q.sum(8, x), x -> busyTogether(8, 1, x));
        BUSY.ends("sum(f, 50)", 0, 8, -1, (q, f) -> q.sum(f, 50), f -> busyTogether(f, 1, 50));
        BUSY.ends("sum(f, 0)", 0, 8, -1, (q, f) -> q.sum(f, 0), f -> 0);
        WIDE.ends("sum(1, x)", 0, 200000, -1, (q, x) -> q.sum(1, x), x -> (long) x * (x + 1) / 2 % M);
        Twins.told("bound 1;").ends("sum(4, x)", 0, 1, -1, (q, x) -> q.sum(4, x), x -> x);
    }

    private static void range() {
        Doc.open("Promise 14:");
        Doc.says("VALUES from a to b together, 1 .. BOUND each, a no more than b;");
        BUSY.answers("range(4, 1, 1)", 1, q -> q.range(4, 1, 1));
        BUSY.answers("range(4, 50, 50)", 6, q -> q.range(4, 50, 50));
        BUSY.answers("range(4, 49, 50)", 9, q -> q.range(4, 49, 50));
        BUSY.answers("range(2, 2, 3), which is -2", 95, q -> q.range(2, 2, 3));
        BUSY.answers("range(1, 20, 21)", 41, q -> q.range(1, 20, 21));
        BUSY.answers("range(1, 20, 20)", 20, q -> q.range(1, 20, 20));
        BUSY.leaves("range(1, 20, 19)", -1, q -> q.range(1, 20, 19));
        Doc.says(NO_SUCH_ONES);
        BUSY.ends("range(0, a, 50)", 1, 50, -1, (q, a) -> q.range(0, a, 50), a -> 51 - a);
        BUSY.ends("range(0, 1, b)", 1, 50, -1, (q, b) -> q.range(0, 1, b), b -> b);
        BUSY.ends("range(1, a, 20)", 1, 20, -1, (q, a) -> q.range(1, a, 20), a -> ((20 + a) * (21 - a) / 2) % 97);
        BUSY.ends("range(1, 20, b)", 20, 50, -1, (q, b) -> q.range(1, 20, b), b -> busyTogether(1, 20, b));
        BUSY.ends("range(f, 3, 30)", 0, 8, -1, (q, f) -> q.range(f, 3, 30), f -> busyTogether(f, 3, 30));
        WIDE.ends("range(0, a, 200000)", 1, 200000, -1, (q, a) -> q.range(0, a, 200000), a -> 200001 - a);
        WIDE.ends("range(0, 1, b)", 1, 200000, -1, (q, b) -> q.range(0, 1, b), b -> b);
        BUSY.leaves("both outside", -1, q -> q.range(0, 0, 51));
        BUSY.leaves("both below", -1, q -> q.range(0, -5, -4));
        BUSY.leaves("both above", -1, q -> q.range(0, 51, 52));
    }

    private static void primes() {
        Doc.open("Promise 15:");
        Doc.says("Primes up to x 0 .. BOUND, each to the j 0 .. 3, together: a rest by MODULUS;");
        int[] x = {0, 1, 2, 3, 4, 5, 6, 7};
        int[][] due = {{0, 0, 1, 2, 2, 3, 3, 4}, {0, 0, 2, 5, 5, 10, 10, 17}, {0, 0, 4, 13, 13, 38, 38, 87},
            {0, 0, 8, 35, 35, 160 - 97, 160 - 97, 503 - 5 * 97}};
        for (int j = 0; j < 4; j++) {
            int power = j;
            for (int i = 0; i < x.length; i++) {
                int upTo = x[i];
                BUSY.answers("primes(" + j + ", " + upTo + ")", due[j][i], q -> q.primes(power, upTo));
            }
        }
        Doc.says(NO_SUCH_ONES);
        BUSY.ends("primes(0, x)", 0, 50, -1, (q, n) -> q.primes(0, n), n -> n < 2 ? 0 : 15);
        BUSY.ends("primes(j, 50)", 0, 3, -1, (q, j) -> q.primes(j, 50), SumSentences::primesTo50);
        BUSY.ends("primes(j, 0)", 0, 3, -1, (q, j) -> q.primes(j, 0), j -> 0);
        WIDE.ends("primes(0, x)", 0, 200000, -1, (q, n) -> q.primes(0, n), n -> n < 2 ? 0 : 17984);
        WIDE.answers("ahead of the last prime", 17983, q -> q.primes(0, 199998));
        Twins.told("bound 47;").ends("primes(0, x)", 0, 47, -1, (q, n) -> q.primes(0, n), n -> n < 2 ? 0 : n < 47 ? 14 : 15);
    }

    private static long primesTo50(int j) {
        long total = 0;
        for (int p : new int[] {2, 3, 5, 7, 11, 13, 17, 19, 23, 29, 31, 37, 41, 43, 47}) {
            long power = 1;
            for (int i = 0; i < j; i++) {
                power *= p;
            }
            total += power;
        }
        return total % 97;
    }

    private static int quotientsOf(int x) {
        int many = 0;
        for (int d = 1; d <= x; d++) {
            many += d == 1 || x / d != x / (d - 1) ? 1 : 0;
        }
        return many;
    }

    private static void quotients() {
        Doc.open("Promise 16:");
        Doc.says("How many QUOTIENTS x 1 .. BOUND has;");
        QuotientSums q = new QuotientSums();
        for (int x = 1; x <= 500; x++) {
            Doc.due("quotients(" + x + ")", q.quotients(x), quotientsOf(x));
        }
        // Where one more comes: at squares, and at d times (d and 1).
        for (int d = 1; d <= 446; d++) {
            q = d % 100 == 1 ? WIDE.one() : q;
            Doc.due("short of " + d + " times one more", q.quotients(d * d + d - 1), 2L * d - 1);
            Doc.due("at " + d + " times one more", q.quotients(d * d + d), 2L * d);
            Doc.due("short of the square behind " + d, q.quotients(d * d + 2 * d), 2L * d);
            Doc.due("at the square behind " + d, q.quotients(d * d + 2 * d + 1), 2L * d + 1);
        }
        Doc.says("NONE: no such x.");
        BUSY.ends("quotients(x)", 1, 50, -1, (o, x) -> o.quotients(x), SumSentences::quotientsOf);
        WIDE.ends("quotients(x)", 1, 200000, -1, (o, x) -> o.quotients(x), SumSentences::quotientsOf);
        Twins.told("bound 1;").ends("quotients(x)", 1, 1, -1, (o, x) -> o.quotients(x), x -> 1);
    }

    private static void quotient() {
        Doc.open("Promise 17:");
        Doc.says("The i-th QUOTIENT (0 on) of x 1 .. BOUND;");
        int[] of50 = {50, 25, 16, 12, 10, 8, 7, 6, 5, 4, 3, 2, 1};
        for (int i = 0; i < of50.length; i++) {
            int at = i;
            BUSY.answers("quotient(50, " + i + ")", of50[i], q -> q.quotient(50, at));
        }
        Doc.says("-2: there are not so many;");
        for (int i : new int[] {13, 14, 50, 51, Integer.MAX_VALUE}) {
            BUSY.leaves("quotient(50, " + i + ")", -2, q -> q.quotient(50, i));
        }
        BUSY.answers("the only one of 1", 1, q -> q.quotient(1, 0));
        BUSY.leaves("a second one of 1", -2, q -> q.quotient(1, 1));
        WIDE.answers("the last of 200000", 1, q -> q.quotient(200000, 892));
        WIDE.leaves("behind the last of 200000", -2, q -> q.quotient(200000, 893));
        Doc.says(NO_SUCH_ONES);
        for (int i : new int[] {-1, -2, Integer.MIN_VALUE}) {
            BUSY.leaves("quotient(50, " + i + ")", -1, q -> q.quotient(50, i));
            BUSY.leaves("quotient(51, " + i + ")", -1, q -> q.quotient(51, i));
        }
        BUSY.ends("quotient(x, 0)", 1, 50, -1, (q, x) -> q.quotient(x, 0), x -> x);
        BUSY.ends("quotient(x, the last)", 1, 50, -1, (q, x) -> q.quotient(x, quotientsOf(Math.min(x, 60)) - 1), x -> 1);
        BUSY.ends("quotient(x, behind)", 1, 50, -1, (q, x) -> q.quotient(x, quotientsOf(Math.min(x, 60))), x -> -2);
        WIDE.ends("quotient(x, 0)", 1, 200000, -1, (q, x) -> q.quotient(x, 0), x -> x);
    }

    private static void block() {
        Doc.open("Promise 18:");
        Doc.says("Of the i-th BLOCK (0 on) of x 1 .. BOUND its first d, (last) its last one;");
        int[] first = {1, 2, 3, 4, 5, 6, 7, 8, 9, 11, 13, 17, 26};
        int[] last = {1, 2, 3, 4, 5, 6, 7, 8, 10, 12, 16, 25, 50};
        for (int i = 0; i < first.length; i++) {
            int at = i;
            BUSY.answers("block(50, " + i + ", false)", first[i], q -> q.block(50, at, false));
            BUSY.answers("block(50, " + i + ", true)", last[i], q -> q.block(50, at, true));
        }
        for (boolean end : new boolean[] {false, true}) {
            blockEnds(end);
        }
    }

    private static void blockEnds(boolean last) {
        if (!last) {
            Doc.says("-2: there are not so many;");
        }
        for (int i : new int[] {13, 14, 50, Integer.MAX_VALUE}) {
            BUSY.leaves("block(50, " + i + ", " + last + ")", -2, q -> q.block(50, i, last));
        }
        BUSY.answers("the only one of 1", 1, q -> q.block(1, 0, last));
        BUSY.leaves("a second one of 1", -2, q -> q.block(1, 1, last));
        WIDE.answers("the last of 200000", last ? 200000 : 100001, q -> q.block(200000, 892, last));
        WIDE.leaves("behind the last of 200000", -2, q -> q.block(200000, 893, last));
        if (!last) {
            Doc.says(NO_SUCH_ONES);
        }
        for (int i : new int[] {-1, -2, Integer.MIN_VALUE}) {
            BUSY.leaves("block(50, " + i + ", " + last + ")", -1, q -> q.block(50, i, last));
            BUSY.leaves("block(51, " + i + ", " + last + ")", -1, q -> q.block(51, i, last));
        }
        BUSY.ends("block(x, 0, " + last + ")", 1, 50, -1, (q, x) -> q.block(x, 0, last), x -> 1);
        WIDE.ends("block(x, 0, " + last + ")", 1, 200000, -1, (q, x) -> q.block(x, 0, last), x -> 1);
    }

    private static void hyper() {
        Doc.open("Promise 19:");
        Doc.says("Of all couples d, e, 1 on, d times e no more than x 0 .. BOUND: the first FUNCTION at d times the second one"
            + " at e, together;");
        BUSY.answers("x 0", 0, q -> q.hyper(5, 6, 0));
        BUSY.answers("x 1", 1, q -> q.hyper(5, 6, 1));
        BUSY.answers("x 2: with 1, 2 and 2, 1", 1 + 3 + 11, q -> q.hyper(5, 6, 2));
        BUSY.answers("the other way round", 1 + 3 + 11, q -> q.hyper(6, 5, 2));
        BUSY.answers("with itself", 1 + 3 + 3 + 4 + 4, q -> q.hyper(5, 5, 3));
        Doc.says(NO_SUCH_ONES);
        BUSY.ends("hyper(8, 3, x)", 0, 50, -1, (q, x) -> q.hyper(8, 3, x), x -> couplesTogether(8, 3, x));
        BUSY.ends("hyper(f, 5, 50)", 0, 8, -1, (q, f) -> q.hyper(f, 5, 50), f -> couplesTogether(f, 5, 50));
        BUSY.ends("hyper(5, g, 50)", 0, 8, -1, (q, g) -> q.hyper(5, g, 50), g -> couplesTogether(5, g, 50));
        BUSY.ends("hyper(f, 0, 0)", 0, 8, -1, (q, f) -> q.hyper(f, 0, 0), f -> 0);
        WIDE.ends("hyper(2, 0, x)", 0, 200000, -1, (q, x) -> q.hyper(2, 0, x), x -> Math.min(x, 1));
        WIDE.ends("hyper(3, 0, x)", 0, 200000, -1, (q, x) -> q.hyper(3, 0, x), x -> (long) x * (x + 1) / 2 % M);
    }

    private static long couplesTogether(int f, int g, int x) {
        QuotientSums q = BUSY.one();
        long total = 0;
        for (int d = 1; d <= x; d++) {
            for (int e = 1; d * e <= x; e++) {
                total += (long) q.value(f, d) * q.value(g, e);
            }
        }
        return total % 97;
    }

    private static void common() {
        Doc.open("Promise 20:");
        Doc.says("Of all couples i, j 1 .. x, x 0 .. BOUND, VALUES at their greatest common divisor together;");
        BUSY.answers("x 0", 0, q -> q.common(6, 0));
        BUSY.answers("x 1", 1, q -> q.common(6, 1));
        BUSY.answers("x 2", 3 + 11, q -> q.common(6, 2));
        BUSY.answers("x 3", 7 + 11 + 15, q -> q.common(6, 3));
        Doc.says(NO_SUCH_ONES);
        BUSY.ends("common(8, x)", 0, 50, -1, (q, x) -> q.common(8, x), x -> commonTogether(8, x));
        BUSY.ends("common(f, 50)", 0, 8, -1, (q, f) -> q.common(f, 50), f -> commonTogether(f, 50));
        BUSY.ends("common(f, 0)", 0, 8, -1, (q, f) -> q.common(f, 0), f -> 0);
        WIDE.ends("common(0, x)", 0, 200000, -1, (q, x) -> q.common(0, x), x -> (long) x * x % M);
    }

    private static long commonTogether(int f, int x) {
        long total = 0;
        for (int d = 1; d <= x; d++) {
            long at = busyValue(f, d);
            for (int i = 1; i <= x; i++) {
                for (int j = 1; j <= x; j++) {
                    total += Model.gcd(i, j) == d ? at : 0;
                }
            }
        }
        return total % 97;
    }

    private static void coprime() {
        Doc.open("Promise 21:");
        Doc.says("How many couples i, j 1 .. x, x 0 .. BOUND, have no common divisor but 1;");
        QuotientSums q = new QuotientSums();
        long many = 0;
        for (int x = 0; x <= 500; x++) {
            many += x == 0 ? 0 : x == 1 ? 1 : 2 * phiOf(x);
            Doc.due("coprime(" + x + ")", q.coprime(x), many);
        }
        q.modulus(2);
        Doc.due("no rest", q.coprime(10), 63);
        Doc.says("NONE: no such x.");
        BUSY.ends("coprime(x)", 0, 50, -1, (o, x) -> o.coprime(x), SumSentences::couplesUpTo);
        WIDE.ends("coprime(x)", 0, 200000, -1, (o, x) -> o.coprime(x), SumSentences::couplesUpTo);
    }

    /** By phi along multiples, as many numbers are asked for. */
    private static long couplesUpTo(int x) {
        int[] phi = new int[x + 1];
        long many = 0;
        for (int n = 1; n <= x; n++) {
            phi[n] += n;
            for (int k = 2 * n; k <= x; k += n) {
                phi[k] -= phi[n];
            }
            many += n == 1 ? 1 : 2L * phi[n];
        }
        return many;
    }

    private static void many() {
        Doc.open("Promise 22:");
        Doc.says("How many n 1 .. x, x 0 .. BOUND, are FREE (what 0), FULL (1);");
        QuotientSums q = new QuotientSums();
        int free = 0;
        int full = 0;
        for (int x = 0; x <= 1000; x++) {
            q = x % 200 == 0 ? new QuotientSums() : q;
            free += x > 0 && Model.free(x) ? 1 : 0;
            full += x > 0 && Model.fullNumber(x) ? 1 : 0;
            Doc.due("many(0, " + x + ")", q.many(0, x), free);
            Doc.due("many(1, " + x + ")", q.many(1, x), full);
        }
        q.modulus(2);
        Doc.due("no rest", q.many(0, 10), 7);
        Doc.says(NO_SUCH_ONES);
        BUSY.ends("many(0, x)", 0, 50, -1, (o, x) -> o.many(0, x), x -> x < 2 ? x : 31);
        BUSY.ends("many(1, x)", 0, 50, -1, (o, x) -> o.many(1, x), x -> x < 2 ? x : 10);
        BUSY.ends("many(what, 50)", 0, 1, -1, (o, what) -> o.many(what, 50), what -> what == 0 ? 31 : 10);
        BUSY.ends("many(what, 0)", 0, 1, -1, (o, what) -> o.many(what, 0), what -> 0);
        WIDE.ends("many(1, x)", 0, 200000, -1, (o, x) -> o.many(1, x), x -> x < 2 ? x : 885 + x / 200000);
        WIDE.ends("many(0, x)", 0, 200000, -1, (o, x) -> o.many(0, x), x -> x < 2 ? x : 121581);
    }

    private static void full() {
        Doc.open("Promise 23:");
        Doc.says("The i-th FULL number (0 on), up to BOUND;");
        int[] row = {1, 4, 8, 9, 16, 25, 27, 32, 36, 49};
        for (int i = 0; i < row.length; i++) {
            int at = i;
            BUSY.answers("full(" + i + ")", row[i], q -> q.full(at));
            // It is there as soon as the bound reaches it, and not ahead of that.
            Twins.told("bound " + row[i] + ";").answers("full(" + i + ") at the bound", row[i], q -> q.full(at));
            if (i > 0) {
                Twins.told("bound " + (row[i] - 1) + ";").leaves("full(" + i + ") above the bound", -2, q -> q.full(at));
            }
        }
        Doc.says("-2: there are not so many;");
        for (int i : new int[] {10, 11, 50, 51, Integer.MAX_VALUE}) {
            BUSY.leaves("full(" + i + ")", -2, q -> q.full(i));
        }
        Twins.told("bound 1;").leaves("full(1) with bound 1", -2, q -> q.full(1));
        WIDE.answers("the last one", 200000, q -> q.full(885));
        WIDE.leaves("behind the last one", -2, q -> q.full(886));
        Doc.says("NONE: i is below 0.");
        for (int i : new int[] {-1, -2, Integer.MIN_VALUE}) {
            BUSY.leaves("full(" + i + ")", -1, q -> q.full(i));
        }
    }

    private static void fullSum() {
        Doc.open("Promise 24:");
        Doc.says("VALUES at FULL numbers up to x 0 .. BOUND together;");
        BUSY.answers("x 0", 0, q -> q.fullSum(1, 0));
        BUSY.answers("x 3", 1, q -> q.fullSum(1, 3));
        BUSY.answers("x 4", 5, q -> q.fullSum(1, 4));
        BUSY.answers("x 35", 122 - 97, q -> q.fullSum(1, 35));
        BUSY.answers("x 36", 158 - 97, q -> q.fullSum(1, 36));
        Doc.says(NO_SUCH_ONES);
        BUSY.ends("fullSum(8, x)", 0, 50, -1, (q, x) -> q.fullSum(8, x), x -> fullTogether(8, x));
        BUSY.ends("fullSum(f, 50)", 0, 8, -1, (q, f) -> q.fullSum(f, 50), f -> fullTogether(f, 50));
        BUSY.ends("fullSum(f, 0)", 0, 8, -1, (q, f) -> q.fullSum(f, 0), f -> 0);
        WIDE.ends("fullSum(0, x)", 0, 200000, -1, (q, x) -> q.fullSum(0, x), x -> x < 2 ? x : 885 + x / 200000);
    }

    private static long fullTogether(int f, int x) {
        long total = 0;
        for (int n = 1; n <= x; n++) {
            total += Model.fullNumber(n) ? busyValue(f, n) : 0;
        }
        return total % 97;
    }

    private static void smooth() {
        Doc.open("Promise 25:");
        Doc.says("VALUES at numbers up to x 0 .. BOUND that are SMOOTH by y 0 .. BOUND, together;");
        BUSY.answers("x 0", 0, q -> q.smooth(1, 0, 50));
        BUSY.answers("y 0", 1, q -> q.smooth(1, 50, 0));
        BUSY.answers("y 1", 1, q -> q.smooth(1, 50, 1));
        BUSY.answers("y 2", 63, q -> q.smooth(1, 50, 2));
        BUSY.answers("y 46", (50 * 51 / 2 - 47) % 97, q -> q.smooth(1, 50, 46));
        BUSY.answers("y 47", 50 * 51 / 2 % 97, q -> q.smooth(1, 50, 47));
        BUSY.answers("y above x", 55, q -> q.smooth(1, 10, 11));
        Doc.says(NO_SUCH_ONES);
        BUSY.ends("smooth(8, x, 5)", 0, 50, -1, (q, x) -> q.smooth(8, x, 5), x -> sortTogether(8, x, 5, false));
        BUSY.ends("smooth(8, 40, y)", 0, 50, -1, (q, y) -> q.smooth(8, 40, y), y -> sortTogether(8, 40, y, false));
        BUSY.ends("smooth(8, 0, y)", 0, 50, -1, (q, y) -> q.smooth(8, 0, y), y -> 0);
        BUSY.ends("smooth(f, 50, 7)", 0, 8, -1, (q, f) -> q.smooth(f, 50, 7), f -> sortTogether(f, 50, 7, false));
        BUSY.ends("smooth(f, 0, 0)", 0, 8, -1, (q, f) -> q.smooth(f, 0, 0), f -> 0);
        WIDE.ends("smooth(0, x, 200000)", 0, 200000, -1, (q, x) -> q.smooth(0, x, 200000), x -> x);
        WIDE.ends("smooth(0, 200000, y)", 0, 200000, -1, (q, y) -> q.smooth(0, 200000, y), y -> y < 2 ? 1 : 200000);
    }

    private static void rough() {
        Doc.open("Promise 26:");
        Doc.says("VALUES at numbers up to x 0 .. BOUND that are ROUGH by y 0 .. BOUND, together;");
        BUSY.answers("x 0", 0, q -> q.rough(1, 0, 50));
        BUSY.answers("y 0", 50 * 51 / 2 % 97, q -> q.rough(1, 50, 0));
        BUSY.answers("y 1", 50 * 51 / 2 % 97, q -> q.rough(1, 50, 1));
        BUSY.answers("y 2", 25 * 25 % 97, q -> q.rough(1, 50, 2));
        BUSY.answers("y 46", 48, q -> q.rough(1, 50, 46));
        BUSY.answers("y 47", 1, q -> q.rough(1, 50, 47));
        BUSY.answers("y above x", 1, q -> q.rough(1, 10, 11));
        Doc.says(NO_SUCH_ONES);
        BUSY.ends("rough(8, x, 5)", 0, 50, -1, (q, x) -> q.rough(8, x, 5), x -> sortTogether(8, x, 5, true));
        BUSY.ends("rough(8, 40, y)", 0, 50, -1, (q, y) -> q.rough(8, 40, y), y -> sortTogether(8, 40, y, true));
        BUSY.ends("rough(8, 0, y)", 0, 50, -1, (q, y) -> q.rough(8, 0, y), y -> 0);
        BUSY.ends("rough(f, 50, 7)", 0, 8, -1, (q, f) -> q.rough(f, 50, 7), f -> sortTogether(f, 50, 7, true));
        BUSY.ends("rough(f, 0, 0)", 0, 8, -1, (q, f) -> q.rough(f, 0, 0), f -> 0);
        WIDE.ends("rough(0, x, 200000)", 0, 200000, -1, (q, x) -> q.rough(0, x, 200000), x -> Math.min(x, 1));
        WIDE.ends("rough(0, 200000, y)", 0, 200000, -1, (q, y) -> q.rough(0, 200000, y), y -> y < 2 ? 200000 : 1);
    }

    private static long sortTogether(int f, int x, int y, boolean rough) {
        long total = 0;
        for (int n = 1; n <= x; n++) {
            boolean inside = true;
            for (int p = 2; p <= n; p++) {
                boolean wrong = rough ? p <= y : p > y;
                inside &= n % p != 0 || !Model.prime(p) || !wrong;
            }
            total += inside ? busyValue(f, n) : 0;
        }
        return total % 97;
    }
}
