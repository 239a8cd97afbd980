import java.util.Random;

/** Runs of calls by a fixed seed, each answer beside that of the brute force in Model. */
public final class ModelTest {
    private static final int RUNS = 400;
    private static final int CALLS = 300;
    private static final int KINDS = 37;
    private static final int[] ODD_NUMBERS = {
        Integer.MIN_VALUE, Integer.MAX_VALUE, -1000, -2, -1, 0, 1, 2, 3, 4, 5, 6, 7, 11, 12, 17, 18, 100, 101, 199999,
        200000, 200001, 200003, 200004, 1000002, 1000003, 1000004};

    private final Random random;
    private final int run;
    private final int reach;
    private QuotientSums q = new QuotientSums();
    private final Model m = new Model();

    private ModelTest(int run) {
        this.run = run;
        random = new Random(run);
        reach = run % 10 == 0 ? 260 : 60;
    }

    public static void main(String[] args) {
        for (int run = 0; run < RUNS && Check.wrongs() == 0; run++) {
            new ModelTest(run).go();
        }
        Check.finish("ModelTest");
    }

    private void go() {
        small();
        for (int i = 0; i < CALLS && Check.wrongs() == 0; i++) {
            if (m.state.bound > 400) {
                small();
            }
            call(random.nextInt(KINDS));
        }
    }

    /** Brute force needs small bounds. */
    private void small() {
        int n = 1 + random.nextInt(reach);
        due("bound(" + n + ")", q.bound(n), m.bound(n));
    }

    private int odd() {
        return ODD_NUMBERS[random.nextInt(ODD_NUMBERS.length)];
    }

    private int f() {
        return random.nextInt(30) == 0 ? odd() : random.nextInt(m.state.functions.size() + (random.nextInt(8) == 0 ? 1 : 0));
    }

    private int x() {
        return random.nextInt(25) == 0 ? odd() : random.nextInt(m.state.bound + 2);
    }

    private int r() {
        int pick = random.nextInt(4);
        return pick == 0 ? odd() : pick == 1 ? m.state.modulus - random.nextInt(3) : random.nextInt(Math.min(m.state.modulus, 30));
    }

    private int mod() {
        int pick = random.nextInt(4);
        return pick == 0 ? odd() : pick == 1 ? 2 + random.nextInt(1000002) : 2 + random.nextInt(20);
    }

    private void due(String call, long got, long want) {
        Check.due("run " + run + ": " + call, got, want);
    }

    private void call(int kind) {
        int f = f();
        int g = f();
        int x = x();
        int y = x();
        boolean flag = random.nextBoolean();
        switch (kind) {
            case 0, 1, 2 -> text();
            case 3 -> due("fault(" + g + ")", q.fault(g), g == 0 ? m.fault : g == 1 ? m.place : -1);
            case 4 -> named();
            case 5 -> function(f, random.nextInt(7) - 1);
            case 6 -> told(f, random.nextInt(8), flag);
            case 7 -> bound();
            case 8 -> modulus(mod());
            case 9, 10 -> set(f, random.nextInt(8), random.nextInt(2010) - 1005, random.nextInt(2010) - 1005);
            case 11 -> due("value(" + f + ", " + x + ")", q.value(f, x), m.value(f, x));
            case 12 -> atPower(f);
            case 13 -> due("sum(" + f + ", " + x + ")", q.sum(f, x), m.sum(f, x));
            case 14 -> due("range(" + f + ", " + x + ", " + y + ")", q.range(f, x, y), m.range(f, x, y));
            case 15 -> primes(random.nextInt(6) - 1, x);
            case 16 -> due("quotients(" + x + ")", q.quotients(x), m.quotients(x));
            case 17 -> quotient(x, random.nextInt(40) - 2);
            case 18 -> block(x, random.nextInt(40) - 2, flag);
            case 19 -> due("hyper(" + f + ", " + g + ", " + x + ")", q.hyper(f, g, x), m.hyper(f, g, x));
            case 20 -> due("common(" + f + ", " + x + ")", q.common(f, x), m.common(f, x));
            case 21 -> due("coprime(" + x + ")", q.coprime(x), m.coprime(x));
            case 22 -> many(random.nextInt(4) - 1, x);
            case 23 -> due("full(" + (g - 1) + ")", q.full(g - 1), m.full(g - 1));
            case 24 -> due("fullSum(" + f + ", " + x + ")", q.fullSum(f, x), m.fullSum(f, x));
            case 25 -> due("smooth(" + f + ", " + x + ", " + y + ")", q.smooth(f, x, y), m.smooth(f, x, y, false));
            case 26 -> due("rough(" + f + ", " + x + ", " + y + ")", q.rough(f, x, y), m.smooth(f, x, y, true));
            case 27 -> first(f, r());
            case 28 -> due("parts(" + f + ", " + g + ")", q.parts(f, g), m.parts(f, g));
            case 29 -> due("best(" + f + ", " + x + ", " + flag + ")", q.best(f, x, flag), m.best(f, x, flag));
            case 30 -> howMany(f, x, r());
            case 31 -> due("blocks(" + f + ", " + x + ")", q.blocks(f, x), m.blocks(f, x));
            case 32 -> isWhole(f);
            case 33 -> chance(f);
            case 34 -> due("undo()", q.undo(), m.undo());
            case 35 -> keepOrBack(flag);
            default -> due("count(" + g + ")", q.count(g), m.count(g));
        }
    }

    private void named() {
        Model.Function known = m.state.functions.get(random.nextInt(m.state.functions.size()));
        int letters = random.nextInt(4) == 0 ? random.nextInt() : Check.letters(known.name);
        due("named(" + letters + ")", q.named(letters), m.named(letters));
    }

    private void function(int f, int what) {
        Check.function(q, f, what, m.function(f, what));
    }

    private void told(int f, int power, boolean second) {
        due("told(" + f + ", " + power + ", " + second + ")", q.told(f, power, second), m.told(f, power, second));
    }

    private void bound() {
        int n = random.nextInt(3) == 0 ? odd() : random.nextInt(reach + 1);
        due("bound(" + n + ")", q.bound(n), m.bound(n));
    }

    private void modulus(int n) {
        due("modulus(" + n + ")", q.modulus(n), m.modulus(n));
    }

    private void set(int f, int power, int a, int b) {
        String call = "set(" + f + ", " + power + ", " + a + ", " + b + ")";
        due(call, q.set(f, power, a, b) ? 1 : 0, m.set(f, power, a, b) ? 1 : 0);
    }

    private void atPower(int f) {
        int p = random.nextInt(4) == 0 ? odd() : 2 + random.nextInt(random.nextBoolean() ? 30 : 200003);
        int k = random.nextInt(20) - 1;
        due("atPower(" + f + ", " + p + ", " + k + ")", q.atPower(f, p, k), m.atPower(f, p, k));
    }

    private void primes(int j, int x) {
        due("primes(" + j + ", " + x + ")", q.primes(j, x), m.primes(j, x));
    }

    private void quotient(int x, int i) {
        due("quotient(" + x + ", " + i + ")", q.quotient(x, i), m.blockPart(x, i, 0));
    }

    private void block(int x, int i, boolean last) {
        due("block(" + x + ", " + i + ", " + last + ")", q.block(x, i, last), m.blockPart(x, i, last ? 2 : 1));
    }

    private void many(int what, int x) {
        due("many(" + what + ", " + x + ")", q.many(what, x), m.many(what, x));
    }

    private void first(int f, int r) {
        due("first(" + f + ", " + r + ")", q.first(f, r), m.first(f, r));
    }

    private void howMany(int f, int x, int r) {
        due("howMany(" + f + ", " + x + ", " + r + ")", q.howMany(f, x, r), m.howMany(f, x, r));
    }

    private void isWhole(int f) {
        if (random.nextInt(6) == 0) {
            due("isWhole(" + f + ")", q.isWhole(f), m.isWhole(f));
        }
    }

    private void chance(int f) {
        int seed = random.nextInt(3) == 0 ? odd() : random.nextInt(3) == 0 ? -1 : random.nextInt() & 0x7fffffff;
        int n = random.nextInt(103) - 1;
        due("chance(" + seed + ", " + n + ", " + f + ")", q.chance(seed, n, f), m.chance(seed, n, f));
    }

    private void keepOrBack(boolean back) {
        if (back) {
            due("back()", q.back(), m.back());
        } else {
            due("keep()", q.keep(), m.keep());
        }
    }

    private void text() {
        String text = new Texts(random).next();
        for (int from = 0; from < text.length(); from += 20) {
            int[] five = new int[5];
            for (int i = 0; i < 20; i++) {
                five[i / 4] = five[i / 4] << 8 | (from + i < text.length() ? text.charAt(from + i) : 32);
            }
            due("feed", q.feed(five[0], five[1], five[2], five[3], five[4]), m.feed(five));
        }
        int n = random.nextInt(20) == 0 ? odd() : random.nextInt(20) == 0 ? m.tape.length() + 1 : text.length();
        n = random.nextInt(30) == 0 ? random.nextInt(text.length() + 1) : n;
        String call = "text(" + n + ") of '" + text + "'";
        due(call, q.text(n), m.text(n));
        due(call + ", fault(0)", q.fault(0), m.fault);
        due(call + ", fault(1)", q.fault(1), m.place);
    }
}
