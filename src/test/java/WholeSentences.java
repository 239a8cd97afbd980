/** What stands around the promises: 'What it is', part by part at the greatest bound, and 'Not promised'. */
final class WholeSentences {
    private static final int M = 1000003;
    private static final int GREAT = 200000;
    private static final int CALLS = 512;
    /** f is 2 + p at each prime p and 3 at its square: FUNCTION 6; the others are made of it, 7 .. 10. */
    private static final String TOLD = "own f;at f 1 2 1;at f 2 3 0;times g f one;over h f;point i f tau;twist j f 4;"
        + "bound 200000;";

    private WholeSentences() {
    }

    static void run() {
        Doc.open("What it is");
        sumsUpToAGreatBound();
        functions();
        values();
        quotients();
        sorts();
        found();
        changed();
        lastOfManyCalls();
        Doc.open("Not promised");
        notShared();
        nothingBeyond();
    }

    // ---- What it is ----

    private static void sumsUpToAGreatBound() {
        Doc.says("Sums of multiplicative functions up to a great bound by few steps:");
        QuotientSums q = Check.told("bound 200000;");
        long multiples = 0;
        long divisors = 0;
        for (int d = 1; d <= GREAT; d++) {
            multiples += GREAT / d;
            divisors += (long) d * (GREAT / d);
        }
        Doc.due("sum of one", q.sum(0, GREAT), GREAT);
        Doc.due("sum of id", q.sum(1, GREAT), GREAT * (GREAT + 1L) / 2 % M);
        Doc.due("sum of tau", q.sum(4, GREAT), multiples % M);
        Doc.due("sum of sigma", q.sum(5, GREAT), divisors % M);
        Doc.due("sum of phi", q.sum(3, GREAT), (q.coprime(GREAT) + 1) / 2 % M);
    }

    private static void functions() {
        Doc.says("functions known and told by what they are at powers of primes, put together, turned over, multiplied "
            + "place by place, twisted by signs, told as a text;");
        QuotientSums q = new QuotientSums();
        Doc.due("lines of the text", Check.tell(q, TOLD), 8);
        Doc.due("functions", q.count(0), 11);
        Doc.due("known: sigma at 12", q.value(5, 12), 28);
        Doc.due("told at powers of primes", q.value(6, 9 * 5 * 7), 3 * 7 * 9);
        Doc.due("put together", q.value(7, 9), 1 + 5 + 3);
        Doc.due("turned over", q.value(8, 9), 25 - 3);
        Doc.due("put together with what is turned over, at 1", q.hyper(6, 8, 1), 1);
        Doc.due("put together with what is turned over", q.hyper(6, 8, GREAT), 1);
        Doc.due("multiplied place by place", q.value(9, 45), 3 * 3 * 7 * 2);
        Doc.due("twisted by signs", q.value(10, 3), M - 5);
        Doc.due("twisted by signs, both", q.value(10, 21), 5 * 9);
        Doc.due("twisted by signs, none", q.value(10, 6), 0);
    }

    private static void values() {
        Doc.says("values, sums up to any number, over a stretch, by what primes sum up to,");
        QuotientSums q = Check.told(TOLD);
        long total = 0;
        long ofPrimes = 0;
        for (int n = 1; n <= 50; n++) {
            total += q.value(6, n);
            Doc.due("sum up to " + n, q.sum(6, n), total % M);
            Doc.due("over the stretch up to " + n, q.range(6, 1, n), total % M);
            ofPrimes += n > 1 && q.value(4, n) == 2 ? n : 0;
            Doc.due("primes up to " + n, q.primes(1, n), ofPrimes % M);
        }
    }

    private static void quotients() {
        Doc.says("quotients each once, blocks that have one;");
        QuotientSums q = Check.told(TOLD);
        int i = 0;
        for (int d = 1; d <= GREAT; i++) {
            q = i % 100 == 0 ? Check.told(TOLD) : q;
            Doc.due("quotient " + i, q.quotient(GREAT, i), GREAT / d);
            Doc.due("first of the block " + i, q.block(GREAT, i, false), d);
            int last = GREAT / (GREAT / d);
            Doc.due("last of the block " + i, q.block(GREAT, i, true), last);
            d = last + 1;
        }
        Doc.due("quotients", q.quotients(GREAT), i);
    }

    private static void sorts() {
        Doc.says("couples, greatest common divisors, numbers without squares, full ones, smooth ones, rough ones;");
        QuotientSums q = Check.told("bound 10;");
        Doc.due("couples", q.hyper(0, 0, 10), 27);
        Doc.due("greatest common divisors", q.common(1, 3), 1 + 1 + 1 + 1 + 2 + 1 + 1 + 1 + 3);
        Doc.due("couples without a common divisor", q.coprime(3), 7);
        Doc.due("numbers without squares: 1 2 3 5 6 7 10", q.many(0, 10), 7);
        Doc.due("full ones: 1 4 8 9", q.many(1, 10), 4);
        Doc.due("the last full one", q.full(3), 9);
        Doc.due("full ones together", q.fullSum(1, 10), 22);
        Doc.due("smooth ones: 1 2 4 8", q.smooth(1, 10, 2), 15);
        Doc.due("rough ones: 1 3 5 7 9", q.rough(1, 10, 2), 25);
    }

    private static void found() {
        Doc.says("where sums first hit a rest, where two functions part, which n is best, greatest and least sums, by chance;");
        QuotientSums q = Check.told("bound 10;seed 7;");
        Doc.due("where sums first hit 10", q.first(1, 10), 4);
        Doc.due("where tau and sigma part", q.parts(4, 5), 2);
        Doc.due("which n is best", q.best(4, 10, false), 6);
        Doc.due("the greatest sum", q.best(3, 10, true), 10);
        Doc.due("the least sum but 0 is the first", q.first(3, 1), 1);
        Doc.due("by chance", q.chance(-1, 10, 0), 10);
    }

    private static void changed() {
        Doc.says("functions, bound and modulus changed by call, undone, images.");
        QuotientSums q = Check.told(TOLD);
        q.keep();
        Doc.due("a function changed", q.set(6, 1, 5, 0), true);
        Doc.due("at 3", q.value(6, 3), 5);
        Doc.due("the bound changed", q.bound(7), GREAT);
        Doc.due("the modulus changed", q.modulus(4), M);
        Doc.due("by 4", q.value(6, 3), 1);
        Doc.due("undone", q.undo(), 2);
        Doc.due("as ahead", q.value(6, 3), 5);
        Doc.due("the image", q.back(), GREAT);
        Doc.due("as in the image", q.value(6, 3), 5);
        Doc.due("as in the image, at 5", q.value(6, 5), 7);
    }

    private static void lastOfManyCalls() {
        Doc.says("An object is used for at most 512 calls after it has been made; what later calls answer is free.");
        QuotientSums q = new QuotientSums();
        for (int call = 1; call <= CALLS; call += 2) {
            Doc.due("call " + call, q.bound(call), call == 1 ? 1000 : call - 2);
            Doc.due("call " + (call + 1), q.sum(0, call), call);
        }
    }

    // ---- Not promised ----

    /** One object from several threads is not promised, but several objects have nothing in common. */
    private static void notShared() {
        Doc.says("How the state is held inside the object is free, as are the speed of each call, the text of toString and "
            + "the behaviour of equals and hashCode. Use of one object from several threads at once is not promised to be safe.");
        QuotientSums one = Check.told(TOLD);
        QuotientSums other = Check.told("own f;at f 1 1 0;bound 50;modulus 7;");
        for (int n = 1; n <= 50; n++) {
            one.set(6, 2, n, 0);
            Doc.due("one object at " + n, one.value(6, 4), n);
            Doc.due("the other one's power at " + n, other.value(6, 4), 0);
            Doc.due("one object's primes up to " + n, one.sum(0, n), n);
            Doc.due("the other one's by 7 up to " + n, other.sum(0, n), n % 7);
        }
        Doc.due("one object's changes", one.count(4), 20);
        Doc.due("the other one's changes", other.count(4), 0);
    }

    /** What later calls answer is free, but by LANGUAGE.md no call may ever throw by itself. */
    private static void nothingBeyond() {
        Doc.says("Nothing is promised beyond the answers and state changes described above, and nothing about an object after "
            + "its 512th call.");
        QuotientSums q = Check.told(TOLD);
        for (int call = 1; call <= 4 * CALLS; call++) {
            q.set(6, 1 + call % 6, call % 1000, -call % 1000);
            q.bound(call);
            q.sum(call % 11, call);
            q.feed(call, call, call, call, call);
        }
        q.text(700);
        Doc.due("nothing has been thrown", true, true);
    }
}
