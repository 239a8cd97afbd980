/** For each promise its ordinary answers, the edges that the document names, and wrong inputs. */
public final class PromiseTest {
    private static final int LEAST = Integer.MIN_VALUE;
    private static final int MOST = Integer.MAX_VALUE;
    private static final int M = 1000003;

    private PromiseTest() {
    }

    public static void main(String[] args) {
        newObject();
        feed();
        text();
        fault();
        named();
        function();
        told();
        bound();
        modulus();
        set();
        value();
        atPower();
        sum();
        range();
        primes();
        quotients();
        quotient();
        block();
        hyper();
        common();
        coprime();
        many();
        full();
        fullSum();
        smooth();
        rough();
        first();
        parts();
        best();
        howMany();
        blocks();
        isWhole();
        chance();
        undo();
        sumsAfterChanges();
        keepAndBack();
        count();
        Check.finish("PromiseTest");
    }

    private static void due(String call, long got, long want) {
        Check.due(call, got, want);
    }

    private static void newObject() {
        QuotientSums q = new QuotientSums();
        int[] counts = {6, 0, 1000, M, 0, 0, 997};
        for (int what = 0; what < counts.length; what++) {
            due("1: count(" + what + ")", q.count(what), counts[what]);
        }
        due("1: fault(0)", q.fault(0), 0);
        due("1: fault(1)", q.fault(1), -1);
        due("1: undo", q.undo(), -1);
        due("1: back", q.back(), -1);
        due("1: no bytes", q.text(1), -2);
        due("1: seed 0", q.chance(-1, 9, 1), q.chance(0, 9, 1));
        due("1: objects are apart", new QuotientSums().bound(3) + new QuotientSums().count(2), 2000);
    }

    private static void feed() {
        QuotientSums q = new QuotientSums();
        for (int i = 1; i <= 35; i++) {
            due("2: feed", q.feed(0x20202020, 0x20202020, 0x20202020, 0x20202020, 0x20202020), 20L * i);
        }
        due("2: a tape that has 700", q.feed(1, 2, 3, 4, 5), -1);
        due("2: it stays", q.count(5), 700);
        due("2: 700 bytes are a text", q.text(700), 0);
        due("2: the highest byte first", q.feed(0x6f776e20, 0x663b2020, 0, -1, LEAST), 20);
        due("2: own f;", q.text(6), 1);
        due("2: bytes above 127", q.feed(-1, 0, 0, 0, 0), 20);
        due("2: are no tokens", q.text(4), -1);
        due("2: at 0", q.fault(1), 0);
    }

    private static void text() {
        QuotientSums q = new QuotientSums();
        due("3: below 0", q.text(-1), -2);
        due("3: least", q.text(LEAST), -2);
        Check.feed(q, "own f;bound 7;modulus 5;");
        due("3: not so many", q.text(41), -2);
        due("3: the tape stays", q.count(5), 40);
        due("3: lines", q.text(24), 3);
        due("3: the tape is empty", q.count(5), 0);
        due("3: bound", q.count(2), 7);
        due("3: modulus", q.count(3), 5);
        q.keep();
        q.bound(9);
        due("3: fault", Check.tell(q, "own g;bound 0;"), -1);
        due("3: the tape is empty with a fault", q.count(5), 0);
        due("3: all else stays, f", q.named(Check.letters("f")), 6);
        due("3: no g", q.named(Check.letters("g")), -1);
        due("3: all else stays, bound", q.count(2), 9);
        due("3: all else stays, undo", q.count(4), 1);
        due("3: all else stays, image", q.back(), 7);
        q.bound(8);
        due("3: two lines", Check.tell(q, "own g;seed 5;"), 2);
        due("3: nothing to undo", q.undo(), -1);
        due("3: no image", q.back(), -1);
        due("3: bound as without lines", q.count(2), 1000);
        due("3: modulus as without lines", q.count(3), M);
        due("3: f is gone", q.named(Check.letters("f")), -1);
        due("3: no lines", q.text(0), 0);
        due("3: all as without lines", q.count(0), 6);
        Check.feed(q, "bound 5;bound 6;");
        due("3: the first bytes alone", q.text(8), 1);
        due("3: the others are gone", q.count(5), 0);
    }

    private static void fault() {
        QuotientSums q = new QuotientSums();
        Check.tell(q, "own f;at f 7 0 0;");
        due("4: fault", q.fault(0), 2);
        due("4: place", q.fault(1), 11);
        due("4: another what", q.fault(2), -1);
        due("4: another what", q.fault(-1), -1);
        due("4: another what", q.fault(LEAST), -1);
        q.text(1);
        due("4: -2 leaves it", q.fault(0), 2);
        due("4: -2 leaves its place", q.fault(1), 11);
        q.text(0);
        due("4: without", q.fault(0), 0);
        due("4: place without", q.fault(1), -1);
    }

    private static void named() {
        QuotientSums q = Check.told("own abcdef;own z;over zz z;");
        String[] names = {"one", "id", "mu", "phi", "tau", "sigma", "abcdef", "z", "zz"};
        for (int f = 0; f < names.length; f++) {
            due("5: " + names[f], q.named(Check.letters(names[f])), f);
        }
        due("5: f is 6", q.named(Check.letters("f")), -1);
        due("5: a part of a name", q.named(Check.letters("abcde")), -1);
        due("5: letters at the low end", q.named(26), -1);
        due("5: none", q.named(0), -1);
        due("5: a bit above", q.named(Check.letters("z") | 1 << 30), -1);
        due("5: below 0", q.named(Check.letters("z") | 1 << 31), -1);
        due("5: -1", q.named(-1), -1);
    }

    private static void function() {
        QuotientSums q = Check.told("own f;times g f tau;over h g;point p phi h;twist t p 3;times u t f;");
        int[][] want = {{0, -2, -2, 0, 0}, {0, -2, -2, 1, 0}, {0, -2, -2, 0, 0}, {0, -2, -2, 1, 0}, {0, -2, -2, 0, 0},
            {0, -2, -2, 1, 0}, {1, -2, -2, 1, 0}, {2, 6, 4, 1, 0}, {3, 7, -2, 1, 0}, {4, 3, 8, 2, 0}, {5, 9, -2, 2, 1},
            {2, 10, 6, 2, 1}};
        for (int f = 0; f < want.length; f++) {
            for (int what = 0; what < 5; what++) {
                Check.function(q, f, what, Integer.toString(want[f][what]));
            }
        }
        for (int what : new int[] {-1, 5, LEAST, MOST}) {
            Check.function(q, 11, what, "NoSuchElementException");
            Check.function(q, 12, what, "IndexOutOfBoundsException");
        }
        for (int f : new int[] {-1, 12, LEAST, MOST}) {
            Check.function(q, f, 0, "IndexOutOfBoundsException");
        }
        QuotientSums both = Check.told("twist a one 3;twist b one 4;times c a b;over d c;point e d phi;");
        Check.function(both, 6, 4, "1");
        Check.function(both, 7, 4, "2");
        Check.function(both, 8, 4, "3");
        Check.function(both, 9, 4, "3");
        Check.function(both, 10, 4, "3");
    }

    private static void told() {
        QuotientSums q = Check.told("own f;own g;at f 1 -999 999;at f 6 5 -7;at f 6 -0 8;at g 1 1 2;over h f;");
        due("7: first", q.told(6, 1, false), -999);
        due("7: second", q.told(6, 1, true), 999);
        due("7: the last one told", q.told(6, 6, false), 0);
        due("7: the last one told", q.told(6, 6, true), 8);
        due("7: not told", q.told(6, 2, true), 0);
        due("7: of another", q.told(7, 1, true), 2);
        due("7: power 0", q.told(6, 0, false), -1000);
        due("7: power 7", q.told(6, 7, true), -1000);
        due("7: over", q.told(8, 1, false), -1000);
        due("7: known", q.told(1, 1, false), -1000);
        due("7: none", q.told(9, 1, false), -1000);
        due("7: below", q.told(LEAST, MOST, true), -1000);
    }

    private static void bound() {
        QuotientSums q = new QuotientSums();
        due("8: what it was", q.bound(200000), 1000);
        due("8: what it was", q.bound(1), 200000);
        due("8: it binds", q.value(0, 2), -1);
        due("8: 0", q.bound(0), -1);
        due("8: too great", q.bound(200001), -1);
        due("8: least", q.bound(LEAST), -1);
        due("8: most", q.bound(MOST), -1);
        due("8: refused ones change nothing", q.count(2), 1);
        due("8: nor can they be undone", q.count(4), 2);
    }

    private static void modulus() {
        QuotientSums q = new QuotientSums();
        due("9: what it was", q.modulus(2), M);
        due("9: rests by it", q.sum(0, 11), 1);
        due("9: what it was", q.modulus(M), 2);
        due("9: rests by it", q.sum(0, 11), 11);
        due("9: 1", q.modulus(1), -1);
        due("9: too great", q.modulus(M + 1), -1);
        due("9: least", q.modulus(LEAST), -1);
        due("9: refused ones change nothing", q.count(3), M);
        due("9: nor can they be undone", q.count(4), 2);
    }

    private static void set() {
        QuotientSums q = Check.told("own f;times g f one;");
        Check.due("10: set", q.set(6, 1, -999, 999), true);
        due("10: told", q.told(6, 1, false), -999);
        due("10: told", q.told(6, 1, true), 999);
        due("10: value", q.value(6, 3), 999 * 3 - 999);
        due("10: of what is made of it", q.value(7, 3), 999 * 3 - 998);
        Check.due("10: the same again", q.set(6, 1, -999, 999), true);
        due("10: can be undone too", q.count(4), 2);
        Check.due("10: a", q.set(6, 1, 1000, 0), false);
        Check.due("10: a", q.set(6, 1, -1000, 0), false);
        Check.due("10: b", q.set(6, 1, 0, 1000), false);
        Check.due("10: b", q.set(6, 1, 0, LEAST), false);
        Check.due("10: power", q.set(6, 0, 0, 0), false);
        Check.due("10: power", q.set(6, 7, 0, 0), false);
        Check.due("10: not own", q.set(7, 1, 0, 0), false);
        Check.due("10: known", q.set(0, 1, 0, 0), false);
        Check.due("10: none", q.set(8, 1, 0, 0), false);
        Check.due("10: none", q.set(-1, 1, 0, 0), false);
        due("10: refused ones change nothing", q.told(6, 1, true), 999);
        due("10: nor can they be undone", q.count(4), 2);
        Check.due("10: power 6", q.set(6, 6, 1, 1), true);
        due("10: at 64", q.value(6, 64), 3);
        due("10: at 128", q.value(6, 128), 0);
    }

    private static void value() {
        QuotientSums q = Check.told("twist t id 4;over o phi;point p sigma phi;times s t one;bound 200000;");
        int[] at12 = {1, 12, 0, 4, 6, 28};
        for (int f = 0; f < 6; f++) {
            due("11: at 1", q.value(f, 1), 1);
            due("11: at 12", q.value(f, 12), at12[f]);
        }
        due("11: mu", q.value(2, 30), M - 1);
        due("11: twist at 15", q.value(6, 15), M - 15);
        due("11: twist at 9", q.value(6, 9), 9);
        due("11: over phi at 2", q.value(7, 2), M - 1);
        due("11: over phi at 4", q.value(7, 4), M - 1);
        due("11: point", q.value(8, 6), 24);
        due("11: times", q.value(9, 3), M - 2);
        due("11: the bound", q.value(1, 200000), 200000);
        due("11: a great prime", q.value(3, 199999), 199998);
        due("11: 0", q.value(0, 0), -1);
        due("11: above", q.value(0, 200001), -1);
        due("11: no function", q.value(10, 1), -1);
        due("11: no function", q.value(-1, 1), -1);
        q.modulus(5);
        due("11: rests", q.value(5, 12), 3);
        due("11: rests", q.value(2, 7), 4);
    }

    private static void atPower() {
        QuotientSums q = Check.told("bound 1;own f;at f 6 1 2;twist t one 3;over s sigma;");
        for (int f = 0; f < 9; f++) {
            due("12: k 0", q.atPower(f, 3, 0), 1);
        }
        due("12: id", q.atPower(1, 2, 17), 131072);
        due("12: p that is no prime", q.atPower(3, 10, 2), 90);
        due("12: sigma of 6", q.atPower(5, 6, 2), 43);
        due("12: own", q.atPower(6, 200003, 6), 400007);
        due("12: own beyond 6", q.atPower(6, 200003, 7), 0);
        due("12: twist of 5", q.atPower(7, 5, 3), M - 1);
        due("12: twist of 5", q.atPower(7, 5, 2), 1);
        due("12: twist of 6", q.atPower(7, 6, 1), 0);
        due("12: twist of 6 to the 0", q.atPower(7, 6, 0), 1);
        due("12: over sigma", q.atPower(8, 7, 1), M - 8);
        due("12: over sigma", q.atPower(8, 7, 2), 7);
        due("12: over sigma", q.atPower(8, 7, 3), 0);
        due("12: p 1", q.atPower(0, 1, 1), -1);
        due("12: p too great", q.atPower(0, 200004, 1), -1);
        due("12: k", q.atPower(0, 2, 18), -1);
        due("12: k", q.atPower(0, 2, -1), -1);
        due("12: f", q.atPower(9, 2, 1), -1);
        due("12: f", q.atPower(LEAST, 2, 1), -1);
    }

    private static void sum() {
        QuotientSums q = new QuotientSums();
        due("13: tau", q.sum(4, 1000), 7069);
        due("13: phi", q.sum(3, 1000), 304192);
        due("13: mu", q.sum(2, 1000), 2);
        due("13: id", q.sum(1, 1000), 500500);
        due("13: 1", q.sum(5, 1), 1);
        due("13: 0", q.sum(5, 0), 0);
        due("13: -1", q.sum(0, -1), -1);
        due("13: above", q.sum(0, 1001), -1);
        due("13: f", q.sum(6, 1), -1);
        due("13: f", q.sum(-1, 1), -1);
        q.bound(200000);
        due("13: great", q.sum(0, 200000), 200000);
        due("13: great mu", q.sum(2, 100000), M - 48);
        due("13: great id", q.sum(1, 200000), 20000100000L % M);
    }

    private static void range() {
        QuotientSums q = new QuotientSums();
        due("14: all", q.range(0, 1, 1000), 1000);
        due("14: one", q.range(1, 1000, 1000), 1000);
        due("14: mu 2 .. 10", q.range(2, 2, 10), M - 2);
        due("14: a above b", q.range(0, 5, 4), -1);
        due("14: a 0", q.range(0, 0, 4), -1);
        due("14: b above", q.range(0, 1, 1001), -1);
        due("14: a least", q.range(0, LEAST, 1), -1);
        due("14: f", q.range(6, 1, 1), -1);
    }

    private static void primes() {
        QuotientSums q = new QuotientSums();
        due("15: how many", q.primes(0, 1000), 168);
        due("15: together", q.primes(1, 1000), 76127);
        due("15: squares", q.primes(2, 1000), 49345379L % M);
        due("15: cubes", q.primes(3, 5), 160);
        due("15: 0", q.primes(3, 0), 0);
        due("15: 2", q.primes(3, 2), 8);
        due("15: j", q.primes(4, 5), -1);
        due("15: j", q.primes(-1, 5), -1);
        due("15: x", q.primes(0, 1001), -1);
        due("15: x", q.primes(0, -1), -1);
        q.modulus(3);
        due("15: a rest", q.primes(0, 10), 1);
        due("15: a rest", q.primes(1, 10), 2);
    }

    private static void quotients() {
        QuotientSums q = new QuotientSums();
        int[] want = {1, 2, 2, 3, 3, 4, 4, 4, 5, 5, 5, 6};
        for (int x = 1; x <= want.length; x++) {
            due("16: of " + x, q.quotients(x), want[x - 1]);
        }
        due("16: of 1000", q.quotients(1000), 62);
        due("16: 0", q.quotients(0), -1);
        due("16: above", q.quotients(1001), -1);
        due("16: least", q.quotients(LEAST), -1);
    }

    private static void quotient() {
        QuotientSums q = new QuotientSums();
        int[] of12 = {12, 6, 4, 3, 2, 1};
        for (int i = 0; i < of12.length; i++) {
            due("17: of 12", q.quotient(12, i), of12[i]);
        }
        due("17: not so many", q.quotient(12, 6), -2);
        due("17: not so many", q.quotient(12, MOST), -2);
        due("17: below 0", q.quotient(12, -1), -1);
        due("17: no x", q.quotient(0, 0), -1);
        due("17: no x goes first", q.quotient(1001, 5000), -1);
    }

    private static void block() {
        QuotientSums q = new QuotientSums();
        int[] first = {1, 2, 3, 4, 5, 7};
        int[] last = {1, 2, 3, 4, 6, 12};
        for (int i = 0; i < first.length; i++) {
            due("18: first", q.block(12, i, false), first[i]);
            due("18: last", q.block(12, i, true), last[i]);
        }
        due("18: of 1", q.block(1, 0, true), 1);
        due("18: not so many", q.block(12, 6, false), -2);
        due("18: not so many", q.block(12, MOST, true), -2);
        due("18: below 0", q.block(12, -1, true), -1);
        due("18: no x", q.block(0, 0, true), -1);
        due("18: no x goes first", q.block(1001, MOST, true), -1);
    }

    private static void hyper() {
        QuotientSums q = Check.told("over h sigma;");
        due("19: one, one", q.hyper(0, 0, 1000), 7069);
        due("19: phi, one", q.hyper(3, 0, 1000), 500500);
        due("19: what turns over", q.hyper(5, 6, 1000), 1);
        due("19: the order is free here", q.hyper(6, 5, 1000), 1);
        due("19: 0", q.hyper(0, 0, 0), 0);
        due("19: x", q.hyper(0, 0, 1001), -1);
        due("19: x", q.hyper(0, 0, -1), -1);
        due("19: f", q.hyper(7, 0, 1), -1);
        due("19: g", q.hyper(0, -1, 1), -1);
    }

    private static void common() {
        QuotientSums q = new QuotientSums();
        due("20: one", q.common(0, 1000), 1000000);
        due("20: id up to 3", q.common(1, 3), 12);
        // Up to 4: 11 couples have 1, 3 have 2, one 3, one 4.
        due("20: mu up to 4", q.common(2, 4), 11 - 3 - 1);
        due("20: 0", q.common(1, 0), 0);
        due("20: x", q.common(1, 1001), -1);
        due("20: x", q.common(1, -1), -1);
        due("20: f", q.common(6, 1), -1);
    }

    private static void coprime() {
        QuotientSums q = new QuotientSums();
        due("21: 1000", q.coprime(1000), 608383);
        due("21: 2", q.coprime(2), 3);
        due("21: 1", q.coprime(1), 1);
        due("21: 0", q.coprime(0), 0);
        due("21: -1", q.coprime(-1), -1);
        due("21: above", q.coprime(1001), -1);
        q.bound(200000);
        due("21: more than an int holds", q.coprime(100000), 6079301507L);
        q.modulus(2);
        due("21: no rest", q.coprime(1000), 608383);
    }

    private static void many() {
        QuotientSums q = new QuotientSums();
        due("22: free", q.many(0, 1000), 608);
        due("22: full", q.many(1, 1000), 54);
        due("22: free 0", q.many(0, 0), 0);
        due("22: full 0", q.many(1, 0), 0);
        due("22: free 4", q.many(0, 4), 3);
        due("22: full 1", q.many(1, 1), 1);
        due("22: what", q.many(2, 1), -1);
        due("22: what", q.many(-1, 1), -1);
        due("22: x", q.many(0, 1001), -1);
        due("22: x", q.many(1, -1), -1);
    }

    private static void full() {
        QuotientSums q = new QuotientSums();
        int[] want = {1, 4, 8, 9, 16, 25, 27, 32, 36, 49, 64, 72, 81, 100, 108};
        for (int i = 0; i < want.length; i++) {
            due("23: " + i, q.full(i), want[i]);
        }
        due("23: the last", q.full(53), 1000);
        due("23: not so many", q.full(54), -2);
        due("23: most", q.full(MOST), -2);
        due("23: below 0", q.full(-1), -1);
        q.bound(999);
        due("23: the bound binds", q.full(53), -2);
        q.bound(1);
        due("23: 1", q.full(0), 1);
        due("23: 1", q.full(1), -2);
    }

    private static void fullSum() {
        QuotientSums q = Check.told("own f;at f 1 5 5;at f 2 7 0;at f 3 0 1;");
        due("24: one", q.fullSum(0, 1000), 54);
        due("24: id", q.fullSum(1, 16), 38);
        due("24: mu", q.fullSum(2, 1000), 1);
        due("24: own 1, 4, 8, 9", q.fullSum(6, 15), 1 + 7 + 2 + 7);
        due("24: own with 36", q.fullSum(6, 36) - q.fullSum(6, 35), 49);
        due("24: 0", q.fullSum(0, 0), 0);
        due("24: x", q.fullSum(0, 1001), -1);
        due("24: x", q.fullSum(0, -1), -1);
        due("24: f", q.fullSum(7, 1), -1);
    }

    private static void smooth() {
        QuotientSums q = new QuotientSums();
        due("25: powers of 2", q.smooth(0, 1000, 2), 10);
        due("25: by 3", q.smooth(0, 100, 4), 20);
        due("25: by 5", q.smooth(0, 100, 5), 34);
        due("25: by 0", q.smooth(1, 1000, 0), 1);
        due("25: by 1", q.smooth(1, 1000, 1), 1);
        due("25: by the bound", q.smooth(0, 1000, 1000), 1000);
        due("25: by 996", q.smooth(0, 1000, 996), 999);
        due("25: by 997", q.smooth(0, 1000, 997), 1000);
        due("25: 0", q.smooth(0, 0, 5), 0);
        due("25: x", q.smooth(0, 1001, 5), -1);
        due("25: x", q.smooth(0, -1, 5), -1);
        due("25: y", q.smooth(0, 5, 1001), -1);
        due("25: y", q.smooth(0, 5, -1), -1);
        due("25: f", q.smooth(6, 5, 5), -1);
    }

    private static void rough() {
        QuotientSums q = new QuotientSums();
        due("26: by 2", q.rough(0, 1000, 2), 500);
        due("26: by 3", q.rough(1, 13, 4), 1 + 5 + 7 + 11 + 13);
        due("26: by 31: 1 and primes above", q.rough(0, 1000, 31), 1 + 168 - 11);
        due("26: by 0", q.rough(0, 1000, 0), 1000);
        due("26: by 1", q.rough(0, 1000, 1), 1000);
        due("26: by the bound", q.rough(1, 1000, 1000), 1);
        due("26: by 996", q.rough(1, 1000, 996), 998);
        due("26: 0", q.rough(0, 0, 5), 0);
        due("26: x", q.rough(0, 1001, 5), -1);
        due("26: y", q.rough(0, 5, 1001), -1);
        due("26: y", q.rough(0, 5, LEAST), -1);
        due("26: f", q.rough(-1, 5, 5), -1);
    }

    private static void first() {
        QuotientSums q = new QuotientSums();
        due("27: one", q.first(0, 1000), 1000);
        due("27: one, beyond", q.first(0, 1001), -2);
        due("27: one, 0", q.first(0, 0), -2);
        due("27: mu 0", q.first(2, 0), 2);
        due("27: mu -3", q.first(2, M - 3), 13);
        due("27: id 1", q.first(1, 1), 1);
        due("27: r", q.first(0, M), -1);
        due("27: r", q.first(0, -1), -1);
        due("27: f", q.first(6, 1), -1);
        q.bound(200000);
        due("27: far", q.first(0, 123456), 123456);
        due("27: the last", q.first(0, 200000), 200000);
        q.modulus(7);
        due("27: by 7", q.first(0, 0), 7);
        due("27: r by 7", q.first(0, 7), -1);
    }

    private static void parts() {
        QuotientSums q = Check.told("own f;own g;at f 1 1 0;at g 1 1 0;at f 2 1 0;at g 2 1 0;at g 3 1 0;over h one;");
        due("28: at 8", q.parts(6, 7), 8);
        due("28: the other way", q.parts(7, 6), 8);
        due("28: none", q.parts(8, 2), -2);
        due("28: itself", q.parts(6, 6), -2);
        due("28: f", q.parts(9, 0), -1);
        due("28: g", q.parts(0, -1), -1);
        q.bound(7);
        due("28: the bound binds", q.parts(6, 7), -2);
        q.bound(1000);
        q.set(6, 3, 3, 0);
        q.modulus(2);
        due("28: the same by 2", q.parts(6, 7), -2);
    }

    private static void best() {
        QuotientSums q = new QuotientSums();
        due("29: tau", q.best(4, 1000, false), 840);
        due("29: the first of several", q.best(4, 11, false), 6);
        due("29: -1 is a great rest", q.best(2, 100, false), 2);
        due("29: sums of mu", q.best(2, 2, true), 1);
        due("29: sums of mu", q.best(2, 4, true), 3);
        due("29: sums of one", q.best(0, 1000, true), 1000);
        due("29: 1", q.best(5, 1, true), 1);
        due("29: 0", q.best(0, 0, true), -1);
        due("29: x", q.best(0, 1001, false), -1);
        due("29: f", q.best(6, 1, false), -1);
        q.modulus(5);
        due("29: sums by 5", q.best(0, 100, true), 4);
        due("29: id by 5", q.best(1, 100, false), 4);
    }

    private static void howMany() {
        QuotientSums q = new QuotientSums();
        due("30: tau 2 are primes", q.howMany(4, 1000, 2), 168);
        due("30: mu 0", q.howMany(2, 1000, 0), 392);
        due("30: phi 4", q.howMany(3, 1000, 4), 4);
        due("30: 0", q.howMany(0, 0, 1), 0);
        due("30: x", q.howMany(0, 1001, 1), -1);
        due("30: x", q.howMany(0, -1, 1), -1);
        due("30: r", q.howMany(0, 1, M), -1);
        due("30: r", q.howMany(0, 1, -1), -1);
        due("30: f", q.howMany(6, 1, 1), -1);
        q.modulus(2);
        due("30: r by 2", q.howMany(0, 1, 2), -1);
        due("30: odd sigma", q.howMany(5, 100, 1), 17);
    }

    private static void blocks() {
        QuotientSums q = new QuotientSums();
        due("31: one", q.blocks(0, 1000), 7069);
        due("31: mu", q.blocks(2, 1000), 1);
        due("31: phi", q.blocks(3, 1000), 500500);
        due("31: 1", q.blocks(5, 1), 1);
        due("31: 0", q.blocks(0, 0), -1);
        due("31: x", q.blocks(0, 1001), -1);
        due("31: f", q.blocks(6, 1), -1);
        q.modulus(10);
        due("31: a rest", q.blocks(0, 10), 7);
    }

    private static void isWhole() {
        QuotientSums q = Check.told("bound 1;twist t id 3;own f;at f 1 0 1;at f 2 0 2;point p id id;");
        int[] want = {1, 1, 0, 0, 0, 0, 1, 0, 1};
        for (int f = 0; f < want.length; f++) {
            due("32: " + f, q.isWhole(f), want[f]);
        }
        due("32: none", q.isWhole(9), -1);
        due("32: none", q.isWhole(-1), -1);
        due("32: none", q.isWhole(MOST), -1);
        q.modulus(2);
        for (int power = 1; power < 7; power++) {
            q.set(7, power, 2, 0);
        }
        due("32: by 2 it is 0 behind 1", q.isWhole(7), 1);
        QuotientSums mostly = Check.told("own g;at g 1 1 0;at g 2 1 0;at g 3 1 0;at g 4 1 0;at g 5 1 0;at g 6 1 0;");
        due("32: it parts only at 128", mostly.isWhole(6), 0);
        due("32: 128", mostly.value(6, 128), 0);
    }

    private static void chance() {
        QuotientSums q = Check.told("seed 99999;bound 200000;");
        due("33: one", q.chance(7, 100, 0), 100);
        due("33: that of the text", q.chance(-1, 10, 1), q.chance(99999, 10, 1));
        due("33: from the seed on each time", q.chance(5, 3, 1), q.chance(5, 3, 1));
        // From seed 0: 12345, then 1406932606: (0 * 32768 + 21468) modulo 200000, and 1.
        due("33: id once", q.chance(0, 1, 1), 21469);
        due("33: n", q.chance(0, 0, 0), -1);
        due("33: n", q.chance(0, 101, 0), -1);
        due("33: seed", q.chance(-2, 1, 0), -1);
        due("33: seed", q.chance(LEAST, 1, 0), -1);
        due("33: f", q.chance(0, 1, 6), -1);
        Check.due("33: the greatest seed", q.chance(MOST, 1, 0) == 1, true);
        q.bound(1);
        due("33: bound 1", q.chance(MOST, 100, 1), 100);
    }

    private static void undo() {
        QuotientSums q = Check.told("own f;at f 1 3 4;");
        due("34: none", q.undo(), -1);
        q.bound(50);
        q.modulus(9);
        q.set(6, 1, 7, 8);
        due("34: three", q.count(4), 3);
        due("34: numbers", q.undo(), 2);
        due("34: first", q.told(6, 1, false), 3);
        due("34: second", q.told(6, 1, true), 4);
        due("34: the value too", q.value(6, 2), 11 % 9);
        due("34: modulus", q.undo(), 1);
        due("34: modulus", q.count(3), M);
        due("34: bound", q.undo(), 0);
        due("34: bound", q.count(2), 1000);
        due("34: none", q.undo(), -1);
        for (int i = 1; i <= 25; i++) {
            q.bound(i);
        }
        due("34: 20 at most", q.count(4), 20);
        for (int i = 19; i >= 0; i--) {
            due("34: left", q.undo(), i);
            due("34: the latest first", q.count(2), i + 5);
        }
        due("34: the oldest are gone", q.undo(), -1);
        due("34: the oldest are gone", q.count(2), 5);
        q.bound(5);
        due("34: to what it is already", q.undo(), 0);
    }

    private static void keepAndBack() {
        QuotientSums q = Check.told("own f;at f 1 3 4;bound 60;modulus 70;");
        due("36: none", q.back(), -1);
        due("35: bound", q.keep(), 60);
        due("35: nothing to undo", q.count(4), 0);
        q.bound(8);
        q.modulus(9);
        q.set(6, 1, -1, -2);
        q.set(6, 6, -1, -2);
        due("36: bound", q.back(), 60);
        due("36: bound", q.count(2), 60);
        due("36: modulus", q.count(3), 70);
        due("36: numbers", q.told(6, 1, true), 4);
        due("36: numbers", q.told(6, 6, false), 0);
        due("36: values", q.value(6, 2), 11);
        due("36: sums", q.sum(6, 2), 12);
        due("36: nothing to undo", q.undo(), -1);
        q.bound(5);
        due("36: it stays", q.back(), 60);
        q.bound(44);
        due("35: in place of one ahead", q.keep(), 44);
        due("35: undo stays", q.count(4), 1);
        due("35: undo does not touch it", q.undo(), 0);
        due("36: the later one", q.back(), 44);
    }

    /** Sums asked for ahead of a change must not be answered behind it. */
    private static void sumsAfterChanges() {
        QuotientSums q = Check.told("own f;at f 1 3 0;over g f;");
        q.keep();
        due("sum as told", q.sum(6, 3), 7);
        due("sum of over as told", q.sum(7, 3), M - 5);
        q.set(6, 1, 5, 0);
        due("10: sum after set", q.sum(6, 3), 11);
        due("10: sum of over after set", q.sum(7, 3), M - 9);
        q.modulus(7);
        due("9: sum after modulus", q.sum(6, 3), 4);
        q.undo();
        due("34: sum after modulus is undone", q.sum(6, 3), 11);
        q.undo();
        due("34: sum after set is undone", q.sum(6, 3), 7);
        q.set(6, 1, 9, 0);
        due("10: sum after set", q.sum(6, 3), 19);
        due("10: sum of over after set", q.sum(7, 3), M - 17);
        q.back();
        due("36: sum after back", q.sum(6, 3), 7);
        due("36: sum of over after back", q.sum(7, 3), M - 5);
        Check.tell(q, "own f;at f 1 4 0;times g f one;");
        due("3: sum after text", q.sum(6, 3), 9);
        due("3: sum of times after text", q.sum(7, 3), 11);
    }

    private static void count() {
        QuotientSums q = Check.told("own f;own g;over h f;bound 1;modulus 6;");
        due("37: functions", q.count(0), 9);
        due("37: own", q.count(1), 2);
        due("37: bound", q.count(2), 1);
        due("37: modulus", q.count(3), 6);
        due("37: no prime", q.count(6), -2);
        q.bound(2);
        due("37: 2", q.count(6), 2);
        q.bound(126);
        due("37: behind a gap", q.count(6), 113);
        q.bound(200000);
        due("37: great", q.count(6), 199999);
        due("37: to undo", q.count(4), 3);
        q.feed(0, 0, 0, 0, 0);
        due("37: bytes", q.count(5), 20);
        due("37: another", q.count(7), -1);
        due("37: another", q.count(-1), -1);
        due("37: another", q.count(MOST), -1);
    }
}
