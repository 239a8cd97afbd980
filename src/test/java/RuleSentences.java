import java.math.BigInteger;

/** The paragraphs marked 2 to 4: VALUES, SUMS, sorts of numbers, DRAWS, what can be undone, and which answer goes first. */
final class RuleSentences {
    private static final int M = 1000003;
    /** A known one, an own one, and one of each way to make one: FUNCTIONS 0, 6 .. 11. */
    private static final String EACH_KIND = "own f;at f 1 3 4;at f 2 -7 5;at f 6 9 -9;times g f sigma;over h f;point i f phi;"
        + "twist j f 3;twist k id 4;";

    private RuleSentences() {
    }

    static void run() {
        Doc.open("Terms");
        rests();
        oneAtOne();
        knownAtPowers();
        ownAtPowers();
        timesAtPowers();
        overAtPowers();
        pointAndTwist();
        sums();
        quotientsAndBlocks();
        fullOnes();
        smoothAndRough();
        freeOnes();
        draws();
        byChance();
        undone();
        image();
        noneFirst();
        exceptionsFirst();
        refusedCalls();
    }

    // ---- 2 ----

    private static void rests() {
        Doc.says("All VALUES are rests by the MODULUS, 0 .. MODULUS less 1.");
        QuotientSums q = new QuotientSums();
        for (int m : new int[] {2, 3, 7, 997}) {
            q.modulus(m);
            Doc.due("-1 by " + m, q.value(2, 2), m - 1);
            Doc.due("one less by " + m, q.value(1, m - 1), m - 1);
            Doc.due("the modulus by itself, " + m, q.value(1, m), 0);
            Doc.due("one more by " + m, q.value(1, m + 1), 1);
        }
        restsOfOwn(83, 991, M - 1);
        restsOfOwn(84, 991, 0);
        restsOfOwn(85, 991, 1);
        restsOfOwn(-83, -991, 1);
        restsOfOwn(-84, -991, 0);
        restsOfOwn(-85, -991, M - 1);
        wraps("value", 4, o -> o.value(1, 4));
        wraps("atPower", 8, o -> o.atPower(1, 2, 3));
        wraps("sum", 5, o -> o.sum(0, 5));
        wraps("range", 9, o -> o.range(1, 4, 5));
        wraps("primes", 4, o -> o.primes(0, 10));
        wraps("primes, cubes", 35, o -> o.primes(3, 3));
        wraps("hyper", 8, o -> o.hyper(0, 0, 4));
        wraps("common", 9, o -> o.common(0, 3));
        wraps("fullSum", 4, o -> o.fullSum(0, 10));
        wraps("smooth", 7, o -> o.smooth(0, 10, 3));
        wraps("rough", 5, o -> o.rough(0, 10, 2));
        wraps("blocks", 8, o -> o.blocks(0, 4));
        wraps("chance", 60, o -> o.chance(5, 60, 0));
    }

    /** At 1009 the second number 991 makes 999919. */
    private static void restsOfOwn(int a, int b, int want) {
        QuotientSums q = Check.told("own f;at f 1 " + a + " " + b + ";bound 2000;");
        Doc.due("value of " + a + " and " + b, q.value(6, 1009), want);
        Doc.due("atPower of " + a + " and " + b, q.atPower(6, 1009, 1), want);
        Doc.due("range of " + a + " and " + b, q.range(6, 1009, 1009), want);
    }

    /** By one more than what it is, by just that, and by one less. */
    private static void wraps(String call, int whole, Twins.Call asked) {
        for (int m = whole - 1; m <= whole + 1; m++) {
            QuotientSums q = new QuotientSums();
            q.modulus(m);
            Doc.due(call + " by " + m, asked.on(q), whole % m);
        }
    }

    private static void oneAtOne() {
        Doc.says("A FUNCTION is 1 at 1, and at n the product of what it is at the powers of primes n is made of.");
        for (int m : new int[] {2, 3, M}) {
            QuotientSums q = Check.told(EACH_KIND);
            q.modulus(m);
            for (int f = 0; f < 12; f++) {
                Doc.due(f + " at 1 by " + m, q.value(f, 1), 1);
                long product = (long) q.atPower(f, 2, 3) * q.atPower(f, 3, 2) % m * q.atPower(f, 5, 1) % m;
                Doc.due(f + " at 360 by " + m, q.value(f, 360), product);
                Doc.due(f + " at 997 by " + m, q.value(f, 997), q.atPower(f, 997, 1));
                Doc.due(f + " at 512 by " + m, q.value(f, 512), q.atPower(f, 2, 9));
            }
        }
    }

    private static void knownAtPowers() {
        Doc.says("At p to the k, k 1 on: one: 1. id: p to the k. mu: -1 for k 1, else 0. phi: p to the k less p to the (k less"
            + " 1). tau: k and 1. sigma: all powers of p from 0 to k together.");
        QuotientSums q = new QuotientSums();
        BigInteger m = BigInteger.valueOf(M);
        for (int p : new int[] {2, 3, 4, 200002, 200003}) {
            BigInteger together = BigInteger.ONE;
            for (int k = 1; k <= 17; k++) {
                BigInteger power = BigInteger.valueOf(p).pow(k);
                BigInteger less = BigInteger.valueOf(p).pow(k - 1);
                together = together.add(power);
                String at = " at " + p + " to the " + k;
                Doc.due("one" + at, q.atPower(0, p, k), 1);
                Doc.due("id" + at, q.atPower(1, p, k), power.mod(m).intValue());
                Doc.due("mu" + at, q.atPower(2, p, k), k == 1 ? M - 1 : 0);
                Doc.due("phi" + at, q.atPower(3, p, k), power.subtract(less).mod(m).intValue());
                Doc.due("tau" + at, q.atPower(4, p, k), k + 1);
                Doc.due("sigma" + at, q.atPower(5, p, k), together.mod(m).intValue());
            }
        }
    }

    private static void ownAtPowers() {
        Doc.says("own: for k 1 .. 6 the first M and the second one times p (0 and 0 if at doesn't tell them), else 0.");
        QuotientSums q = Check.told("own f;at f 1 1 2;at f 2 3 4;at f 3 5 6;at f 4 7 8;at f 5 9 10;at f 6 11 12;"
            + "own g;at g 6 5 0;");
        for (int k = 1; k <= 17; k++) {
            Doc.due("all told, power " + k, q.atPower(6, 7, k), k <= 6 ? 2 * k - 1 + 2 * k * 7 : 0);
            Doc.due("6 told, power " + k, q.atPower(7, 7, k), k == 6 ? 5 : 0);
        }
        Doc.due("told of 6", q.value(6, 64), 11 + 24);
        Doc.due("beyond the told ones", q.value(6, 128), 0);
        Doc.due("beyond them, and another prime", q.value(6, 384), 0);
        Doc.due("not told", q.value(7, 2), 0);
        Doc.due("at 1 all the same", q.value(7, 1), 1);
    }

    private static void timesAtPowers() {
        Doc.says("times: of all i 0 .. k the first one's at p to the i times the other one's at p to the (k less i), together"
            + " (each at p to the 0: 1).");
        QuotientSums q = Check.told(EACH_KIND);
        for (int k = 1; k <= 17; k++) {
            long total = 0;
            for (int i = 0; i <= k; i++) {
                total = (total + (long) q.atPower(6, 3, i) * q.atPower(5, 3, k - i)) % M;
            }
            Doc.due("power " + k, q.atPower(7, 3, k), total);
        }
        Doc.due("power 1 is both together", q.atPower(7, 3, 1), 3 + 12 + 4);
    }

    private static void overAtPowers() {
        Doc.says("over: such that times of it and the FUNCTION it is told of would be 0 at each p to the k, k 1 on.");
        for (int p : new int[] {2, 3, 200003}) {
            QuotientSums q = Check.told(EACH_KIND);
            for (int k = 1; k <= 17; k++) {
                long total = 0;
                for (int i = 0; i <= k; i++) {
                    total = (total + (long) q.atPower(8, p, i) * q.atPower(6, p, k - i)) % M;
                }
                Doc.due(p + " to the " + k, total, 0);
            }
        }
        QuotientSums q = Check.told(EACH_KIND);
        Doc.due("power 1", q.atPower(8, 3, 1), M - 15);
        Doc.due("power 2", q.atPower(8, 3, 2), 15 * 15 - 8);
    }

    private static void pointAndTwist() {
        Doc.says("point: both multiplied.");
        QuotientSums q = Check.told(EACH_KIND);
        for (int k = 1; k <= 17; k++) {
            Doc.due("point, power " + k, q.atPower(9, 3, k), (long) q.atPower(6, 3, k) * q.atPower(3, 3, k) % M);
        }
        Doc.says("twist: the FUNCTION's times (SIGN of p to the k): SIGN by 3: 1, if p by 3 leaves 1, -1, if it leaves 2,"
            + " else 0; by 4: 1, if p by 4 leaves 1, -1, if it leaves 3, else 0.");
        int[] byThree = {0, 1, -1};
        int[] byFour = {0, 1, 0, -1};
        for (int p = 2; p <= 13; p++) {
            for (int k = 0; k <= 7; k++) {
                int even = k % 2 == 0 ? 1 : 0;
                twisted(q, 10, 6, p, k, even == 1 ? byThree[p % 3] * byThree[p % 3] : byThree[p % 3]);
                twisted(q, 11, 1, p, k, even == 1 ? byFour[p % 4] * byFour[p % 4] : byFour[p % 4]);
            }
        }
    }

    private static void twisted(QuotientSums q, int f, int of, int p, int k, int sign) {
        long want = k == 0 ? 1 : Math.floorMod((long) sign * q.atPower(of, p, k), (long) M);
        Doc.due("twist " + f + " at " + p + " to the " + k, q.atPower(f, p, k), want);
    }

    private static void sums() {
        Doc.says("SUM of a FUNCTION up to x: its VALUES at 1 .. x, together (0 for x 0).");
        for (int m : new int[] {2, 3, 97, M}) {
            for (int f = 0; f < 12; f++) {
                sumsOf(f, m);
            }
        }
    }

    private static void sumsOf(int f, int m) {
        QuotientSums q = Check.told(EACH_KIND);
        q.modulus(m);
        long total = 0;
        for (int x = 0; x <= 200; x++) {
            total += x == 0 ? 0 : q.value(f, x);
            Doc.due("of " + f + " up to " + x + " by " + m, q.sum(f, x), total % m);
        }
    }

    private static void quotientsAndBlocks() {
        Doc.says("QUOTIENTS of x: x by d, rounded down, for d 1 .. x, each once, the greatest first. BLOCK: all d of x with one"
            + " QUOTIENT, in the order of d.");
        // Around squares, and around d times (d and 1), the rows have their middles.
        int[] all = {1, 2, 3, 4, 5, 6, 7, 8, 9, 10, 11, 12, 13, 899, 900, 901, 929, 930, 931, 960, 961, 962, 999, 1000};
        for (int x : all) {
            QuotientSums q = new QuotientSums();
            int i = 0;
            for (int d = 1; d <= x; d++) {
                if (d == 1 || x / d != x / (d - 1)) {
                    Doc.due("quotient " + i + " of " + x, q.quotient(x, i), x / d);
                    Doc.due("block " + i + " of " + x, q.block(x, i, false), d);
                    i++;
                }
                if (d == x || x / d != x / (d + 1)) {
                    Doc.due("end of block " + (i - 1) + " of " + x, q.block(x, i - 1, true), d);
                }
            }
            Doc.due("quotients of " + x, q.quotients(x), i);
            Doc.due("behind the last of " + x, q.quotient(x, i), -2);
        }
    }

    private static void fullOnes() {
        Doc.says("FULL: n, each prime of which is in it twice or more (1 is).");
        int[] row = {1, 4, 8, 9, 16, 25, 27, 32, 36, 49, 64, 72, 81, 100, 108, 121, 125, 128, 144};
        sort("FULL", row, (o, x) -> o.many(1, x));
        sort("FULL by sum", row, (o, x) -> o.fullSum(0, x));
        QuotientSums q = new QuotientSums();
        for (int i = 0; i < row.length; i++) {
            Doc.due("FULL " + i, q.full(i), row[i]);
        }
    }

    private static void smoothAndRough() {
        Doc.says("SMOOTH by y: no prime of n is above y; ROUGH by y: none is y or less (1 is both).");
        sort("SMOOTH by 3", new int[] {1, 2, 3, 4, 6, 8, 9, 12, 16, 18, 24, 27, 32, 36, 48}, (o, x) -> o.smooth(0, x, 3));
        sort("SMOOTH by 4", new int[] {1, 2, 3, 4, 6, 8, 9, 12, 16, 18, 24, 27, 32, 36, 48}, (o, x) -> o.smooth(0, x, 4));
        sort("SMOOTH by 2", new int[] {1, 2, 4, 8, 16, 32, 64, 128, 256}, (o, x) -> o.smooth(0, x, 2));
        sort("SMOOTH by 1", new int[] {1}, (o, x) -> o.smooth(0, x, 1));
        sort("ROUGH by 3", new int[] {1, 5, 7, 11, 13, 17, 19, 23, 25, 29, 31, 35}, (o, x) -> o.rough(0, x, 3));
        sort("ROUGH by 4", new int[] {1, 5, 7, 11, 13, 17, 19, 23, 25, 29, 31, 35}, (o, x) -> o.rough(0, x, 4));
        sort("ROUGH by 5", new int[] {1, 7, 11, 13, 17, 19, 23, 29, 31, 37, 41, 43, 47, 49}, (o, x) -> o.rough(0, x, 5));
        sort("ROUGH by 1", new int[] {1, 2, 3, 4, 5}, (o, x) -> o.rough(0, x, 1));
    }

    private static void freeOnes() {
        Doc.says("FREE: no prime is in n twice.");
        sort("FREE", new int[] {1, 2, 3, 5, 6, 7, 10, 11, 13, 14, 15, 17, 19, 21, 22, 23, 26, 29, 30, 31, 33, 34, 35, 37},
            (o, x) -> o.many(0, x));
    }

    /** How many of a sort there are up to each x, as far as the row of them goes. */
    private static void sort(String name, int[] row, Twins.Asked manyUpTo) {
        QuotientSums q = new QuotientSums();
        int many = 0;
        for (int x = 0; x <= row[row.length - 1]; x++) {
            many += row[many] == x ? 1 : 0;
            Doc.due(name + " up to " + x, manyUpTo.of(q, x), many);
            if (many == row.length) {
                return;
            }
        }
    }

    // ---- 3 ----

    private static void draws() {
        Doc.says("DRAW: the last number (at first the seed) times 1103515245, and 12345 more, without what is above 31 bits, is"
            + " the next one; this by 65536, rounded down, modulo what is said, is drawn.");
        // Seed 0: 12345, then 1406932606, which by 65536 is 21468. Seed 1: 1103527590, 377401575: 16838, 5758.
        QuotientSums q = Check.told("bound 200000;");
        Doc.due("from seed 0", q.chance(0, 1, 1), 21469);
        Doc.due("from seed 1", q.chance(1, 1, 1), (16838L * 32768 + 5758) % 200000 + 1);
        for (int seed : new int[] {0, 1, 2, 99999, 1 << 30, Integer.MAX_VALUE - 1, Integer.MAX_VALUE}) {
            for (int n = 1; n <= 4; n++) {
                Doc.due("seed " + seed + ", " + n + " times", q.chance(seed, n, 1), drawn(seed, n, 200000));
            }
        }
        Doc.due("from the seed on again", q.chance(5, 2, 1), drawn(5, 2, 200000));
        Doc.due("from the seed on again", q.chance(5, 2, 1), drawn(5, 2, 200000));
        // The ends of what can be drawn, of the first DRAW and of the second one.
        for (int drawn : new int[] {0, 1, 32766, 32767}) {
            int once = ahead(drawn * 65536 + 4711);
            Doc.due("first " + drawn, q.chance(once, 1, 1), drawn(once, 1, 200000));
            int twice = ahead(once);
            Doc.due("then " + drawn, q.chance(twice, 1, 1), drawn(twice, 1, 200000));
        }
    }

    /** The number that comes ahead of one in the row of DRAWS. */
    private static int ahead(int next) {
        BigInteger all = BigInteger.ONE.shiftLeft(31);
        return BigInteger.valueOf(next).subtract(BigInteger.valueOf(12345))
            .multiply(BigInteger.valueOf(1103515245).modInverse(all)).mod(all).intValue();
    }

    /** What id is at the places drawn, together. */
    private static long drawn(int seed, int n, int bound) {
        BigInteger last = BigInteger.valueOf(seed);
        BigInteger total = BigInteger.ZERO;
        for (int i = 0; i < n; i++) {
            BigInteger both = BigInteger.ZERO;
            for (int j = 0; j < 2; j++) {
                last = last.multiply(BigInteger.valueOf(1103515245)).add(BigInteger.valueOf(12345))
                    .mod(BigInteger.ONE.shiftLeft(31));
                both = both.multiply(BigInteger.valueOf(32768)).add(last.shiftRight(16).mod(BigInteger.valueOf(32768)));
            }
            total = total.add(both.mod(BigInteger.valueOf(bound))).add(BigInteger.ONE);
        }
        return total.mod(BigInteger.valueOf(M)).longValue();
    }

    private static void byChance() {
        Doc.says("BY CHANCE: n times: a DRAW modulo 32768 times 32768, and a DRAW modulo 32768, modulo BOUND, and 1: VALUES"
            + " there together.");
        QuotientSums q = new QuotientSums();
        for (int bound : new int[] {1, 2, 3, 1000, 32767, 32768, 32769, 65536, 199999, 200000}) {
            q.bound(bound);
            for (int n : new int[] {1, 2, 99, 100}) {
                Doc.due(n + " times up to " + bound, q.chance(4711, n, 1), drawn(4711, n, bound));
            }
        }
        q.bound(1);
        Doc.due("1 alone", q.chance(9, 100, 5), 100);
    }

    // ---- 4 ----

    private static void undone() {
        Doc.says("What is changed by call (also to what it is already) can be undone, the latest first (20 at most).");
        for (int changes = 18; changes <= 22; changes++) {
            QuotientSums q = new QuotientSums();
            for (int i = 1; i <= changes; i++) {
                q.bound(i);
            }
            int most = Math.min(changes, 20);
            Doc.due("of " + changes, q.count(4), most);
            for (int left = most - 1; left >= 0; left--) {
                Doc.due("left of " + changes, q.undo(), left);
                int before = changes - most + left;
                Doc.due("bound then", q.count(2), before == 0 ? 1000 : before);
            }
            Doc.due("none is left of " + changes, q.undo(), -1);
        }
        QuotientSums q = Check.told("own f;at f 1 3 4;");
        q.bound(1000);
        q.modulus(M);
        q.set(6, 1, 3, 4);
        Doc.due("to what it is already", q.count(4), 3);
        Doc.due("undone", q.undo(), 2);
        Doc.due("undone", q.undo(), 1);
        Doc.due("undone", q.undo(), 0);
        Doc.due("and as it was", q.told(6, 1, true) + q.count(2) + q.count(3), 4 + 1000 + M);
        mixed();
    }

    /** More than 20, of all three sorts in turn, so that those kept last are of all sorts too. */
    private static void mixed() {
        QuotientSums q = Check.told("own f;");
        for (int i = 1; i <= 30; i++) {
            if (i % 3 == 0) {
                q.bound(i);
            } else if (i % 3 == 1) {
                q.modulus(i + 1);
            } else {
                q.set(6, 1 + i % 6, i, -i);
            }
        }
        for (int i = 30; i > 10; i--) {
            Doc.due("mixed, left", q.undo(), i - 11);
            int before = i - 3 < 1 ? 0 : i - 3;
            if (i % 3 == 0) {
                Doc.due("mixed, bound", q.count(2), before);
            } else if (i % 3 == 1) {
                Doc.due("mixed, modulus", q.count(3), before + 1);
            } else {
                int sixBefore = i - 6 > 1 ? i - 6 : 0;
                Doc.due("mixed, numbers", q.told(6, 1 + i % 6, false), sixBefore);
            }
        }
        Doc.due("mixed, none", q.undo(), -1);
    }

    private static void image() {
        Doc.says("An IMAGE keeps BOUND, MODULUS, own ones' numbers.");
        QuotientSums q = Check.told("own f;own g;at f 1 1 2;at g 6 3 4;seed 5;bound 60;modulus 70;");
        q.keep();
        for (int f = 6; f <= 7; f++) {
            for (int power = 1; power <= 6; power++) {
                q.set(f, power, -9, -8);
            }
        }
        q.bound(7);
        q.modulus(8);
        q.back();
        Doc.due("bound", q.count(2), 60);
        Doc.due("modulus", q.count(3), 70);
        for (int power = 1; power <= 6; power++) {
            Doc.due("f, first of " + power, q.told(6, power, false), power == 1 ? 1 : 0);
            Doc.due("f, second of " + power, q.told(6, power, true), power == 1 ? 2 : 0);
            Doc.due("g, first of " + power, q.told(7, power, false), power == 6 ? 3 : 0);
            Doc.due("g, second of " + power, q.told(7, power, true), power == 6 ? 4 : 0);
        }
        Doc.due("functions are as they are", q.count(0), 8);
        Doc.due("the seed is as it is", q.chance(-1, 3, 0), q.chance(5, 3, 0));
    }

    private static void noneFirst() {
        Doc.says("Of several answers that hold NONE goes first, then -2;");
        Twins busy = Twins.busy();
        busy.leaves("quotient: no such x, and not so many", -1, q -> q.quotient(51, 1000));
        busy.leaves("quotient: x 0, and not so many", -1, q -> q.quotient(0, 0));
        busy.leaves("quotient: not so many alone", -2, q -> q.quotient(50, 1000));
        busy.leaves("block: no such x, and not so many", -1, q -> q.block(51, 1000, true));
        busy.leaves("block: x 0, and not so many", -1, q -> q.block(0, 0, false));
        busy.leaves("block: not so many alone", -2, q -> q.block(50, 1000, true));
        busy.leaves("first: no such function, and there is none", -1, q -> q.first(9, 0));
        busy.leaves("first: no such rest, and there is none", -1, q -> q.first(0, 97));
        busy.leaves("parts: no such functions, which are the same", -1, q -> q.parts(9, 9));
        busy.leaves("parts: no such second function", -1, q -> q.parts(0, 9));
        busy.leaves("parts: there is none alone", -2, q -> q.parts(8, 8));
    }

    private static void exceptionsFirst() {
        Doc.says("IndexOutOfBoundsException ahead of NoSuchElementException, both ahead of numbers.");
        Twins busy = Twins.busy();
        for (int f : new int[] {Integer.MIN_VALUE, -1, 9, Integer.MAX_VALUE}) {
            for (int what : new int[] {Integer.MIN_VALUE, -1, 0, 4, 5, Integer.MAX_VALUE}) {
                busy.leaves("function(" + f + ", " + what + ")", Twins.THROWS_INDEX, q -> Twins.function(q, f, what));
            }
        }
        // The first FUNCTION has no first one it is made of: -2 would hold too, were there such a what.
        busy.leaves("function(0, 5)", Twins.THROWS_ELEMENT, q -> Twins.function(q, 0, 5));
        busy.leaves("function(0, -1)", Twins.THROWS_ELEMENT, q -> Twins.function(q, 0, -1));
        busy.leaves("function(0, 1)", -2, q -> Twins.function(q, 0, 1));
    }

    /** The ends of each call's ranges are looked at with its promise; here each call that refuses is, once more. */
    private static void refusedCalls() {
        Doc.says("A call that is refused changes nothing.");
        Twins busy = Twins.busy();
        busy.leaves("text", -2, q -> q.text(21));
        busy.leaves("text", -2, q -> q.text(-1));
        busy.leaves("fault", -1, q -> q.fault(2));
        busy.leaves("named", -1, q -> q.named(0));
        busy.leaves("told", -1000, q -> q.told(8, 1, true));
        busy.leaves("bound", -1, q -> q.bound(0));
        busy.leaves("modulus", -1, q -> q.modulus(1));
        busy.leaves("set", 0, q -> q.set(6, 1, 1000, 0) ? 1 : 0);
        busy.leaves("count", -1, q -> q.count(7));
        busy.leaves("chance", -1, q -> q.chance(0, 101, 0));
        Twins plain = Twins.told("");
        plain.leaves("undo without any", -1, QuotientSums::undo);
        plain.leaves("back without an image", -1, QuotientSums::back);
        QuotientSums one = Twins.makeBusy();
        QuotientSums other = Twins.makeBusy();
        filled(one);
        filled(other);
        Doc.due("feed beyond 700", one.feed(1, 2, 3, 4, 5), -1);
        Twins.sameShown("feed beyond 700", one, other);
    }

    private static void filled(QuotientSums q) {
        for (int i = 0; i < 34; i++) {
            q.feed(0x20202020, 0x20202020, 0x20202020, 0x20202020, 0x20202020);
        }
    }
}
