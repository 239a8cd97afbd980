/** Promises 27 to 37: looking for numbers, chance, what is undone and kept, and what is counted. */
final class SearchSentences {
    private static final int M = 1000003;
    private static final Twins BUSY = Twins.busy();
    private static final Twins WIDE = Twins.wide();
    private static final String NO_SUCH_ONES = "NONE: no such ones.";

    private SearchSentences() {
    }

    static void run() {
        first();
        parts();
        best();
        howMany();
        blocks();
        isWhole();
        chance();
        undo();
        keep();
        back();
        count();
    }

    private static void first() {
        Doc.open("Promise 27:");
        Doc.says("The least n 1 .. BOUND whose SUM is r 0 .. MODULUS less 1;");
        for (int r : new int[] {1, 2, 1023, 1024, 1025, 2047, 2048, 2049, 131071, 131072, 131073, 199999, 200000}) {
            WIDE.answers("first(0, " + r + ")", r, q -> q.first(0, r));
        }
        Twins bySeven = Twins.told("modulus 7;bound 20;");
        for (int r = 0; r < 7; r++) {
            int rest = r;
            bySeven.answers("the least of several for " + r, r == 0 ? 7 : r, q -> q.first(0, rest));
        }
        BUSY.answers("SUM 0 of mu", 2, q -> q.first(2, 0));
        BUSY.answers("SUM -1 of mu", 3, q -> q.first(2, 96));
        BUSY.answers("SUM 1 of mu, at 1 already", 1, q -> q.first(2, 1));
        Doc.says("-2: there is none;");
        BUSY.answers("at the bound", 50, q -> q.first(0, 50));
        BUSY.leaves("behind the bound", -2, q -> q.first(0, 51));
        BUSY.leaves("0 is no SUM of one", -2, q -> q.first(0, 0));
        WIDE.leaves("behind the greatest bound", -2, q -> q.first(0, 200001));
        WIDE.leaves("0 is no SUM of one", -2, q -> q.first(0, 0));
        Twins.told("bound 1;").answers("bound 1", 1, q -> q.first(5, 1));
        Twins.told("bound 1;").leaves("bound 1", -2, q -> q.first(5, 4));
        Twins.told("bound 2;").answers("bound 2", 2, q -> q.first(5, 4));
        Doc.says(NO_SUCH_ONES);
        BUSY.ends("first(0, r)", 0, 96, -1, (q, r) -> q.first(0, r), r -> r == 1 ? 1 : -2);
        BUSY.ends("first(f, 1)", 0, 8, -1, (q, f) -> q.first(f, 1), f -> 1);
        WIDE.ends("first(0, r)", 0, M - 1, -1, (q, r) -> q.first(0, r), r -> r == 1 ? 1 : -2);
        Twins.told("modulus 2;").ends("first(0, r)", 0, 1, -1, (q, r) -> q.first(0, r), r -> 2 - r);
    }

    private static void parts() {
        Doc.open("Promise 28:");
        Doc.says("The least n 1 .. BOUND at which two FUNCTIONS are not the same;");
        String far = "modulus 2;own f;at f 4 1 0;times g f f;times h g g;own z;";
        // By 2, f is 1 at fourth powers of primes alone, g at eighth ones, h at sixteenth ones, z nowhere.
        int[] at = {16, 256, 65536};
        for (int i = 0; i < at.length; i++) {
            int f = 6 + i;
            Twins.told(far + "bound " + at[i] + ";").answers("at the bound " + at[i], at[i], q -> q.parts(f, 9));
            Twins.told(far + "bound " + at[i] + ";").answers("the other way round", at[i], q -> q.parts(9, f));
            Twins.told(far + "bound " + (at[i] - 1) + ";").leaves("ahead of " + at[i], -2, q -> q.parts(f, 9));
            Twins.told(far + "bound 200000;").answers("the least", at[i], q -> q.parts(f, 9));
        }
        BUSY.answers("at 2", 2, q -> q.parts(0, 1));
        BUSY.answers("id and sigma", 2, q -> q.parts(1, 5));
        Doc.due("at 3", Check.told("twist a one 4;own b;at b 1 -2 1;").parts(6, 7), 3);
        Doc.says("-2: there is none;");
        Twins.told("bound 1;").leaves("at 1 all are 1", -2, q -> q.parts(0, 1));
        Twins.told("bound 2;").answers("at 2", 2, q -> q.parts(0, 1));
        for (int f = 0; f < 9; f++) {
            int same = f;
            BUSY.leaves(f + " and itself", -2, q -> q.parts(same, same));
        }
        Twins.told("over h one;bound 200000;").leaves("mu, told in another way", -2, q -> q.parts(6, 2));
        Twins.told("modulus 2;bound 200000;").leaves("phi and sigma by 2 part at 4", 4, q -> q.parts(3, 5));
        Twins.told("modulus 2;own f;own g;at f 1 2 0;at g 1 0 4;").leaves("the same by 2", -2, q -> q.parts(6, 7));
        Twins.told("modulus 3;own f;own g;at f 1 2 0;at g 1 0 4;").leaves("not the same by 3", 3, q -> q.parts(6, 7));
        Doc.says(NO_SUCH_ONES);
        BUSY.ends("parts(f, 8)", 0, 8, -1, (q, f) -> q.parts(f, 8), f -> f == 8 ? -2 : 2);
        BUSY.ends("parts(8, g)", 0, 8, -1, (q, g) -> q.parts(8, g), g -> g == 8 ? -2 : 2);
        BUSY.leaves("no such both", -1, q -> q.parts(9, 9));
        BUSY.leaves("no such both", -1, q -> q.parts(-1, -1));
    }

    private static void best() {
        Doc.open("Promise 29:");
        Doc.says("The n 1 .. x, x 1 .. BOUND, of the greatest VALUE, (sums) SUM, the first;");
        int[] bestTau = {1, 2, 2, 4, 4, 6, 6, 6, 6, 6, 6, 12, 12};
        for (int x = 1; x <= bestTau.length; x++) {
            int upTo = x;
            BUSY.answers("tau up to " + x, bestTau[x - 1], q -> q.best(4, upTo, false));
        }
        BUSY.answers("48 of tau", 48, q -> q.best(4, 48, false));
        BUSY.answers("ahead of 48", 36, q -> q.best(4, 47, false));
        BUSY.answers("-1 is the greatest rest", 2, q -> q.best(2, 50, false));
        BUSY.answers("1 of mu", 1, q -> q.best(2, 1, false));
        BUSY.answers("the first of all that are the same", 1, q -> q.best(0, 50, false));
        BUSY.answers("SUMS of mu: 1, 0", 1, q -> q.best(2, 2, true));
        BUSY.answers("SUMS of mu: 1, 0, -1, -1", 3, q -> q.best(2, 4, true));
        BUSY.answers("SUMS of mu: 1, 0, -1, -1, -2", 3, q -> q.best(2, 5, true));
        BUSY.answers("SUMS of one grow", 50, q -> q.best(0, 50, true));
        BUSY.answers("SUMS of id: 91 at 13", 13, q -> q.best(1, 14, true));
        Doc.due("SUMS of one by 7", Check.told("modulus 7;").best(0, 13, true), 6);
        Doc.due("VALUES of id by 7", Check.told("modulus 7;").best(1, 13, false), 6);
        Doc.due("VALUES of id by 7, short of it", Check.told("modulus 7;").best(1, 5, false), 5);
        Doc.says(NO_SUCH_ONES);
        BUSY.ends("best(0, x, true)", 1, 50, -1, (q, x) -> q.best(0, x, true), x -> x);
        BUSY.ends("best(1, x, false)", 1, 50, -1, (q, x) -> q.best(1, x, false), x -> x);
        BUSY.ends("best(f, 1, false)", 0, 8, -1, (q, f) -> q.best(f, 1, false), f -> 1);
        BUSY.ends("best(f, 1, true)", 0, 8, -1, (q, f) -> q.best(f, 1, true), f -> 1);
        WIDE.ends("best(1, x, false)", 1, 200000, -1, (q, x) -> q.best(1, x, false), x -> x);
        WIDE.ends("best(0, x, true)", 1, 200000, -1, (q, x) -> q.best(0, x, true), x -> x);
    }

    private static void howMany() {
        Doc.open("Promise 30:");
        Doc.says("How many n 1 .. x, x 0 .. BOUND, have the VALUE r 0 .. MODULUS less 1;");
        int[] primesUpTo = {0, 0, 1, 2, 2, 3, 3, 4};
        for (int x = 0; x < primesUpTo.length; x++) {
            int upTo = x;
            BUSY.answers("tau 2 up to " + x, primesUpTo[x], q -> q.howMany(4, upTo, 2));
        }
        BUSY.answers("mu 0", 19, q -> q.howMany(2, 50, 0));
        BUSY.answers("mu 1", 14, q -> q.howMany(2, 50, 1));
        BUSY.answers("mu -1", 17, q -> q.howMany(2, 50, 96));
        BUSY.answers("none", 0, q -> q.howMany(2, 50, 2));
        Doc.due("no rest", Check.told("modulus 2;").howMany(0, 1000, 1), 1000);
        Doc.says(NO_SUCH_ONES);
        BUSY.ends("howMany(0, x, 1)", 0, 50, -1, (q, x) -> q.howMany(0, x, 1), x -> x);
        BUSY.ends("howMany(2, 50, r)", 0, 96, -1, (q, r) -> q.howMany(2, 50, r),
            r -> r == 0 ? 19 : r == 1 ? 14 : r == 96 ? 17 : 0);
        BUSY.ends("howMany(0, 0, r)", 0, 96, -1, (q, r) -> q.howMany(0, 0, r), r -> 0);
        BUSY.ends("howMany(f, 1, 1)", 0, 8, -1, (q, f) -> q.howMany(f, 1, 1), f -> 1);
        BUSY.ends("howMany(f, 0, 0)", 0, 8, -1, (q, f) -> q.howMany(f, 0, 0), f -> 0);
        WIDE.ends("howMany(0, x, 1)", 0, 200000, -1, (q, x) -> q.howMany(0, x, 1), x -> x);
        WIDE.ends("howMany(2, 10, r)", 0, M - 1, -1, (q, r) -> q.howMany(2, 10, r),
            r -> r == 0 || r == 1 ? 3 : r == M - 1 ? 4 : 0);
        Twins.told("modulus 2;").ends("howMany(1, 9, r)", 0, 1, -1, (q, r) -> q.howMany(1, 9, r), r -> 4 + r);
    }

    private static void blocks() {
        Doc.open("Promise 31:");
        Doc.says("SUMS at all QUOTIENTS of x 1 .. BOUND, each times how many d its BLOCK has, together;");
        int[] ofTau = {1, 3, 5, 8, 10, 14, 16, 20};
        for (int x = 1; x <= ofTau.length; x++) {
            int upTo = x;
            BUSY.answers("of one up to " + x, ofTau[x - 1], q -> q.blocks(0, upTo));
            BUSY.answers("of mu up to " + x, 1, q -> q.blocks(2, upTo));
            BUSY.answers("of phi up to " + x, x * (x + 1) / 2, q -> q.blocks(3, upTo));
        }
        Doc.says(NO_SUCH_ONES);
        BUSY.ends("blocks(2, x)", 1, 50, -1, (q, x) -> q.blocks(2, x), x -> 1);
        BUSY.ends("blocks(3, x)", 1, 50, -1, (q, x) -> q.blocks(3, x), x -> x * (x + 1) / 2 % 97);
        BUSY.ends("blocks(f, 1)", 0, 8, -1, (q, f) -> q.blocks(f, 1), f -> 1);
        BUSY.ends("blocks(f, 50)", 0, 8, -1, (q, f) -> q.blocks(f, 50), SearchSentences::busyBlocks);
        WIDE.ends("blocks(3, x)", 1, 200000, -1, (q, x) -> q.blocks(3, x), x -> (long) x * (x + 1) / 2 % M);
    }

    private static long busyBlocks(int f) {
        QuotientSums q = BUSY.one();
        long total = 0;
        for (int d = 1; d <= 50; d++) {
            total += q.sum(f, 50 / d);
        }
        return total % 97;
    }

    private static void isWhole() {
        Doc.open("Promise 32:");
        Doc.says("Whether a FUNCTION multiplies at all m, n 1 .. 40 (VALUE at m times n is VALUE at m times VALUE at n, by"
            + " MODULUS): 1, 0;");
        QuotientSums known = Check.told("twist t id 3;twist u phi 4;point p id id;own z;");
        int[] due = {1, 1, 0, 0, 0, 0, 1, 0, 1, 1};
        for (int f = 0; f < due.length; f++) {
            Doc.due("isWhole(" + f + ")", known.isWhole(f), due[f]);
        }
        // Each is 0 at all powers of primes but those of one k, and there at the least primes too.
        whole("2 times 2", "own f;at f 2 1 0;", 0);
        whole("16 times 2", "modulus 2;own f;at f 5 1 0;", 0);
        whole("25 times 25, by 2 and 3 it is 0", "own u;at u 4 -2 1;own v;at v 4 -3 1;point f u v;", 0);
        whole("27 times 27, by 2 it is 0", "own f;at f 6 -2 1;", 0);
        whole("32 times 32", "modulus 2;own u;at u 5 1 0;times f u u;", 0);
        whole("7 times 49 is beyond, by 2, 3 and 5 it is 0",
            "own u;at u 3 -2 1;own v;at v 3 -3 1;own w;at w 3 -5 1;point x u v;point f x w;", 1);
        partsFirstAt(37, "twist a tau 4;own w;at w 2 1 3;twist b mu 3;times c b a;point d c w;point f phi d;", 0);
        partsFirstAt(41, "own u;own w;own x;at u 1 1 3;at u 2 0 2;at w 1 1 1;at w 2 1 2;at w 3 1 2;at w 4 0 1;"
            + "at w 5 0 1;at x 1 3 1;at x 2 3 4;at x 3 1 3;at x 4 1 2;at x 5 4 3;at x 6 1 0;"
            + "twist t u 4;point v w x;times f t v;", 1);
        whole("by the modulus", "modulus 3;own f;at f 2 9 3;", 1);
        whole("by another modulus", "modulus 4;own f;at f 2 9 3;", 0);
        Doc.says("NONE: no such FUNCTION.");
        BUSY.ends("isWhole(f)", 0, 8, -1, (q, f) -> q.isWhole(f), f -> f < 2 ? 1 : 0);
        Twins.told("").ends("isWhole(f)", 0, 5, -1, (q, f) -> q.isWhole(f), f -> f < 2 ? 1 : 0);
        Doc.says("(BOUND doesn't bind here.)");
        for (int bound : new int[] {1, 39, 40, 1599, 1600, 1601, 200000}) {
            QuotientSums q = Check.told("own f;at f 6 -2 1;bound " + bound + ";");
            Doc.due("one with bound " + bound, q.isWhole(0), 1);
            Doc.due("tau with bound " + bound, q.isWhole(4), 0);
            Doc.due("27 times 27 with bound " + bound, q.isWhole(6), 0);
            Doc.due("the bound stays", q.count(2), bound);
        }
    }

    /** The FUNCTION named f. */
    private static void whole(String what, String text, int want) {
        QuotientSums q = Check.told(text);
        Doc.due(what, q.isWhole(q.named(Check.letters("f"))), want);
    }

    /** The FUNCTION named f multiplies wherever both are less than p, and not at p times p: it tells 40 from less or more. */
    private static void partsFirstAt(int p, String text, int want) {
        int[] at = valuesBy5(text, p * p);
        long wrong = 0;
        for (int m = 1; m < p; m++) {
            for (int n = 1; n < p; n++) {
                wrong += at[m * n] == at[m] * at[n] % 5 ? 0 : 1;
            }
        }
        Doc.due("where it does not multiply ahead of " + p, wrong, 0);
        Doc.due("whether it multiplies at " + p, at[p * p] == at[p] * at[p] % 5, false);
        whole("parts first at " + p + " times " + p, "modulus 5;" + text, want);
    }

    /** A new object now and then, as one is meant for 512 calls. */
    private static int[] valuesBy5(String text, int upTo) {
        int[] values = new int[upTo + 1];
        QuotientSums q = null;
        for (int n = 1; n <= upTo; n++) {
            if (n % 400 == 1) {
                q = Check.told("modulus 5;bound " + upTo + ";" + text);
            }
            values[n] = q.value(11, n);
        }
        return values;
    }

    private static void chance() {
        Doc.open("Promise 33:");
        Doc.says("BY CHANCE n 1 .. 100 from a seed 0 .. 2147483647 on (-1: that of the TEXT);");
        BUSY.answers("once from 0", 21468 % 50 + 1, q -> q.chance(0, 1, 1));
        for (int n : new int[] {1, 2, 99, 100}) {
            QuotientSums q = BUSY.one();
            Doc.due("that of the text, " + n + " times", q.chance(-1, n, 1), q.chance(77, n, 1));
            Doc.due("that of the text again", q.chance(-1, n, 1), q.chance(77, n, 1));
        }
        Doc.due("0 is no -1", BUSY.one().chance(0, 9, 1) != BUSY.one().chance(-1, 9, 1), true);
        Doc.due("a new text without a seed", reread("bound 50;modulus 97;"), BUSY.one().chance(0, 9, 1));
        Doc.due("a new text with a seed", reread("seed 99999;bound 50;modulus 97;"), BUSY.one().chance(99999, 9, 1));
        Doc.due("a text with a fault", reread("seed 5;bound 0;"), BUSY.one().chance(77, 9, 1));
        QuotientSums kept = BUSY.one();
        kept.back();
        kept.bound(50);
        kept.modulus(97);
        Doc.due("behind back", kept.chance(-1, 9, 1), kept.chance(77, 9, 1));
        Doc.says(NO_SUCH_ONES);
        BUSY.ends("chance(5, n, 0)", 1, 100, -1, (q, n) -> q.chance(5, n, 0), n -> n % 97);
        BUSY.ends("chance(-1, n, 0)", 1, 100, -1, (q, n) -> q.chance(-1, n, 0), n -> n % 97);
        BUSY.ends("chance(seed, 3, 0)", -1, Integer.MAX_VALUE, -1, (q, seed) -> q.chance(seed, 3, 0), seed -> 3);
        BUSY.ends("chance(0, 1, f)", 0, 8, -1, (q, f) -> q.chance(0, 1, f), f -> BUSY.one().value(f, 19));
    }

    /** What is drawn with -1 behind a second text. */
    private static long reread(String text) {
        QuotientSums q = Check.told("seed 77;bound 50;modulus 97;");
        Check.tell(q, text);
        return q.chance(-1, 9, 1);
    }

    private static void undo() {
        Doc.open("Promise 34:");
        Doc.says("The latest is undone: how many are left;");
        QuotientSums q = BUSY.one();
        q.sum(6, 50);
        Doc.due("set", q.undo(), 2);
        Doc.due("its first number", q.told(6, 2, false), 0);
        Doc.due("its second number", q.told(6, 2, true), 0);
        Doc.due("the value", q.value(6, 4), 0);
        Doc.due("the sum", q.sum(6, 4), 1 + 11 + 15);
        Doc.due("the modulus stays", q.count(3), 97);
        Doc.due("modulus", q.undo(), 1);
        Doc.due("as it was", q.count(3), 101);
        Doc.due("the bound stays", q.count(2), 50);
        Doc.due("bound", q.undo(), 0);
        Doc.due("as it was", q.count(2), 60);
        Doc.due("value at the bound", q.value(0, 60), 1);
        Doc.says("NONE: none.");
        Doc.due("none", q.undo(), -1);
        Doc.due("none again", q.undo(), -1);
        Doc.due("bound", q.count(2), 60);
        Doc.due("modulus", q.count(3), 101);
        Doc.due("numbers", q.told(6, 1, true), 4);
        Twins.told("own f;at f 1 3 4;bound 60;").leaves("of a text alone", -1, QuotientSums::undo);
        q.bound(1);
        Doc.due("a change behind it", q.undo(), 0);
        Doc.due("an undone one is no change", q.undo(), -1);
        q.keep();
        q.feed(0, 0, 0, 0, 0);
        Doc.due("neither keep nor feed", q.undo(), -1);
    }

    private static void keep() {
        Doc.open("Promise 35:");
        Doc.says("An IMAGE is kept (in place of one ahead): BOUND.");
        QuotientSums q = BUSY.one();
        Doc.due("keep", q.keep(), 50);
        Doc.due("what can be undone stays", q.count(4), 3);
        Doc.due("the tape stays", q.count(5), 20);
        q.bound(1);
        q.modulus(2);
        q.set(6, 1, 0, 0);
        Doc.due("back", q.back(), 50);
        Doc.due("modulus", q.count(3), 97);
        Doc.due("numbers", q.told(6, 1, false), 3);
        Doc.due("numbers of a later power", q.told(6, 2, true), 6);
        for (int bound : new int[] {1, 2, 199999, 200000}) {
            q.bound(bound);
            Doc.due("keep with " + bound, q.keep(), bound);
            q.bound(7);
            Doc.due("back to " + bound, q.back(), bound);
        }
        Doc.due("the first one is kept no more", q.count(2), 200000);
        QuotientSums undone = BUSY.one();
        undone.keep();
        Doc.due("undo goes on", undone.undo(), 2);
        Doc.due("but not in the image", undone.back(), 50);
        Doc.due("nor its numbers", undone.told(6, 2, true), 6);
        Doc.due("a new one has its own", new QuotientSums().keep(), 1000);
    }

    private static void back() {
        Doc.open("Promise 36:");
        Doc.says("All is as in the IMAGE (nothing to undo then; it stays): BOUND;");
        QuotientSums q = BUSY.one();
        q.sum(6, 50);
        q.sum(8, 50);
        Doc.due("back", q.back(), 60);
        Doc.due("bound", q.count(2), 60);
        Doc.due("modulus", q.count(3), 101);
        Doc.due("numbers", q.told(6, 2, false), 0);
        Doc.due("a sum of them", q.sum(6, 4), 1 + 11 + 15);
        Doc.due("a sum of what is made of them", q.sum(8, 3), 1 + 12 + 16);
        Doc.due("nothing to undo", q.count(4), 0);
        Doc.due("undo", q.undo(), -1);
        Doc.due("the tape stays", q.count(5), 20);
        Doc.due("the fault stays", q.fault(0), 2);
        Doc.due("its place stays", q.fault(1), 12);
        for (int i = 0; i < 3; i++) {
            q.bound(5 + i);
            q.set(7, 6, i, i);
            Doc.due("the image stays", q.back(), 60);
            Doc.due("and its numbers", q.told(7, 6, true), 9);
            Doc.due("nothing to undo", q.count(4), 0);
        }
        Doc.due("back to what it is already", q.back(), 60);
        Doc.says("NONE: there is none.");
        Twins plain = Twins.told("own f;at f 1 3 4;bound 60;");
        plain.leaves("none yet", -1, QuotientSums::back);
        QuotientSums changed = plain.one();
        changed.bound(9);
        Doc.due("none yet", changed.back(), -1);
        Doc.due("the bound stays", changed.count(2), 9);
        Doc.due("what can be undone stays", changed.count(4), 1);
        Doc.due("undo", changed.undo(), 0);
        QuotientSums read = BUSY.one();
        read.text(20);
        Doc.due("none behind a text", read.back(), -1);
        Doc.due("its bound stays", read.count(2), 9);
    }

    private static void count() {
        Doc.open("Promise 37:");
        Doc.says("0 FUNCTIONS, 1 own ones, 2 BOUND, 3 MODULUS, 4 what can be undone, 5 bytes of the TAPE,");
        int[] due = {9, 2, 50, 97, 3, 20, 47};
        for (int what = 0; what < due.length; what++) {
            int asked = what;
            BUSY.leaves("count(" + what + ")", due[what], q -> q.count(asked));
        }
        Doc.due("no own ones", Check.told("over f one;").count(1), 0);
        Doc.due("six own ones", Check.told("own a;own b;own c;own d;own e;own f;").count(1), 6);
        Doc.due("twelve functions", Check.told("own a;own b;own c;own d;own e;own f;").count(0), 12);
        Doc.says("6 the greatest prime up to BOUND (-2: none).");
        int[] primes = {-2, 2, 3, 3, 5, 5, 7, 7, 7, 7, 11};
        for (int bound = 1; bound <= primes.length; bound++) {
            Doc.due("up to " + bound, Check.told("bound " + bound + ";").count(6), primes[bound - 1]);
        }
        int[][] far = {{126, 113}, {127, 127}, {31468, 31397}, {31469, 31469}, {199998, 199967}, {199999, 199999},
            {200000, 199999}};
        for (int[] pair : far) {
            Doc.due("up to " + pair[0], Check.told("bound " + pair[0] + ";").count(6), pair[1]);
        }
        Doc.says("NONE for another what.");
        BUSY.ends("count(what)", 0, 6, -1, (q, what) -> q.count(what), what -> due[what]);
    }
}
