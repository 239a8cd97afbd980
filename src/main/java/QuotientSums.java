import java.util.Arrays;
import java.util.NoSuchElementException;

/** Sums of multiplicative functions up to a bound, by the promises of DOC.md. */
public final class QuotientSums {
    public static final int NONE = -1;

    private static final int ABSENT = -2;
    private static final int NOT_TOLD = -1000;

    private static final int MOST_BOUND = 200000;
    private static final int MOST_MODULUS = 1000003;
    private static final int MOST_SEED = 99999;
    private static final int MOST_TOLD = 999;
    private static final int MOST_PRIME = 200003;
    private static final int MOST_POWER = 17;
    private static final int MOST_OWN_POWER = 6;
    private static final int MOST_DEGREE = 3;
    private static final int MOST_FUNCTIONS = 12;
    private static final int MOST_CHANCES = 100;
    private static final int KNOWN_FUNCTIONS = 6;
    private static final int WHOLE_SIDE = 40;

    private static final int KNOWN = 0;
    private static final int OWN = 1;
    private static final int TIMES = 2;
    private static final int OVER = 3;
    private static final int POINT = 4;
    private static final int TWIST = 5;

    private static final int BY_THREE = 1;
    private static final int BY_FOUR = 2;

    private static final int NAME_LETTERS = 6;
    private static final String KNOWN_NAMES = "one   id    mu    phi   tau   sigma ";
    private static final int[] KNOWN_DEGREES = {0, 1, 0, 1, 0, 1};

    private Plan now = new Plan();
    private final Reader reader = new Reader();
    private final Changes changes = new Changes();
    private final Image image = new Image();
    private final Rows rows = new Rows();
    private final Couples couples = new Couples();

    public QuotientSums() {
    }

    // ---- the TEXT ----

    public int feed(int a, int b, int c, int d, int e) {
        if (!reader.tape.hasRoom()) {
            return NONE;
        }
        reader.tape.append(a);
        reader.tape.append(b);
        reader.tape.append(c);
        reader.tape.append(d);
        reader.tape.append(e);
        return reader.tape.fed;
    }

    public int text(int n) {
        if (n < 0 || n > reader.tape.fed) {
            return ABSENT;
        }
        if (!reader.read(n)) {
            return NONE;
        }
        now = reader.swap(now);
        image.kept = false;
        changes.forget();
        rows.forget();
        return reader.lines;
    }

    public int fault(int what) {
        if (what == 0) {
            return reader.faulty;
        }
        return what == 1 ? reader.place : NONE;
    }

    // ---- the FUNCTIONS ----

    public int named(int letters) {
        return now.find(letters);
    }

    public int function(int f, int what) throws IndexOutOfBoundsException, NoSuchElementException {
        if (!now.has(f)) {
            throw new IndexOutOfBoundsException("no such function");
        }
        switch (what) {
            case 0:
                return now.kinds[f];
            case 1:
                return now.firsts[f];
            case 2:
                return now.seconds[f];
            case 3:
                return now.degrees[f];
            case 4:
                return now.colours[f];
            default:
                throw new NoSuchElementException("no such what");
        }
    }

    public int told(int f, int power, boolean second) {
        if (!now.isOwn(f) || !isOwnPower(power)) {
            return NOT_TOLD;
        }
        return now.numbers[Plan.cell(f, power) + (second ? 1 : 0)];
    }

    // ---- what calls change ----

    public int bound(int n) {
        if (n < 1 || n > MOST_BOUND) {
            return NONE;
        }
        int old = now.bound;
        changes.push(Changes.OF_BOUND, 0, old, 0);
        now.bound = n;
        return old;
    }

    public int modulus(int m) {
        if (m < 2 || m > MOST_MODULUS) {
            return NONE;
        }
        int old = now.modulus;
        changes.push(Changes.OF_MODULUS, 0, old, 0);
        now.modulus = m;
        return old;
    }

    public boolean set(int f, int power, int a, int b) {
        if (!now.isOwn(f) || !isOwnPower(power) || !isTellable(a) || !isTellable(b)) {
            return false;
        }
        int cell = Plan.cell(f, power);
        changes.push(Changes.OF_NUMBERS, cell, now.numbers[cell], now.numbers[cell + 1]);
        putNumbers(cell, a, b);
        return true;
    }

    private void putNumbers(int cell, int a, int b) {
        now.numbers[cell] = a;
        now.numbers[cell + 1] = b;
        rows.forget();
    }

    // ---- values and sums ----

    public int value(int f, int n) {
        if (!now.has(f) || !isPlace(n)) {
            return NONE;
        }
        return rows.powers.valueAt(now, f, n);
    }

    public int atPower(int f, int p, int k) {
        if (!now.has(f) || p < 2 || p > MOST_PRIME || k < 0 || k > MOST_POWER) {
            return NONE;
        }
        return rows.powers.valueAtPower(now, f, p, k);
    }

    public int sum(int f, int x) {
        if (!now.has(f) || !isReach(x)) {
            return NONE;
        }
        return rows.upTo(now, f, x).sumTo(x);
    }

    public int range(int f, int a, int b) {
        if (!now.has(f) || !isPlace(a) || !isPlace(b) || a > b) {
            return NONE;
        }
        return rows.upTo(now, f, b).stretch(a, b);
    }

    public int primes(int j, int x) {
        if (j < 0 || j > 3 || !isReach(x)) {
            return NONE;
        }
        rows.sieve.reach(x);
        long total = 0;
        for (int n = 2; n <= x; n++) {
            if (rows.sieve.leastPrime(n) == n) {
                total += powerOf(n, j);
            }
        }
        return now.rest(total);
    }

    private int powerOf(int base, int exponent) {
        long product = 1;
        for (int i = 0; i < exponent; i++) {
            product = now.rest(product * base);
        }
        return now.rest(product);
    }

    // ---- QUOTIENTS and BLOCKS ----

    public int quotients(int x) {
        return isPlace(x) ? quotientTotal(x) : NONE;
    }

    public int quotient(int x, int i) {
        if (!isPlace(x) || i < 0) {
            return NONE;
        }
        return i < quotientTotal(x) ? quotientAt(x, i) : ABSENT;
    }

    public int block(int x, int i, boolean last) {
        if (!isPlace(x) || i < 0) {
            return NONE;
        }
        if (i >= quotientTotal(x)) {
            return ABSENT;
        }
        int q = quotientAt(x, i);
        return last ? divided(x, q) : divided(x, q + 1) + 1;
    }

    private static int quotientTotal(int x) {
        int root = rootOf(x);
        return divided(x, root) == root ? 2 * root - 1 : 2 * root;
    }

    /** Up to the root each d has a quotient of its own; behind it the quotients go down by one. */
    private static int quotientAt(int x, int i) {
        return i < rootOf(x) ? divided(x, i + 1) : quotientTotal(x) - i;
    }

    public int hyper(int f, int g, int x) {
        if (!now.has(f) || !now.has(g) || !isReach(x)) {
            return NONE;
        }
        Row left = rows.upTo(now, f, x);
        Row right = rows.upTo(now, g, x);
        long total = 0;
        for (int d = 1, last = 0; d <= x; d = last + 1) {
            int q = divided(x, d);
            last = Math.max(d, divided(x, q));
            total = now.rest(total + (long) left.stretch(d, last) * right.sumTo(q));
        }
        return (int) total;
    }

    public int blocks(int f, int x) {
        if (!now.has(f) || !isPlace(x)) {
            return NONE;
        }
        Row row = rows.upTo(now, f, x);
        long total = 0;
        for (int d = 1, last = 0; d <= x; d = last + 1) {
            int q = divided(x, d);
            last = Math.max(d, divided(x, q));
            total = now.rest(total + (long) (last - d + 1) * row.sumTo(q));
        }
        return (int) total;
    }

    public int common(int f, int x) {
        if (!now.has(f) || !isReach(x)) {
            return NONE;
        }
        Row row = rows.upTo(now, f, x);
        couples.reach(x);
        long total = 0;
        for (int d = 1, last = 0; d <= x; d = last + 1) {
            int q = divided(x, d);
            last = Math.max(d, divided(x, q));
            total = now.rest(total + (long) row.stretch(d, last) * now.rest(couples.without(q)));
        }
        return (int) total;
    }

    public long coprime(int x) {
        if (!isReach(x)) {
            return NONE;
        }
        couples.reach(x);
        return couples.without(x);
    }

    // ---- numbers of one sort ----

    public int many(int what, int x) {
        if (what < 0 || what > 1 || !isReach(x)) {
            return NONE;
        }
        return what == 0 ? freeUpTo(x) : fullUpTo(x);
    }

    public int full(int i) {
        if (i < 0) {
            return NONE;
        }
        if (i >= fullUpTo(now.bound)) {
            return ABSENT;
        }
        int low = 1;
        int high = now.bound;
        for (int step = 0; step < 32 && low < high; step++) {
            int middle = low + (high - low) / 2;
            if (fullUpTo(middle) > i) {
                high = middle;
            } else {
                low = middle + 1;
            }
        }
        return low;
    }

    public int fullSum(int f, int x) {
        if (!now.has(f) || !isReach(x)) {
            return NONE;
        }
        long total = 0;
        for (int b = 1; b * b * b <= x; b++) {
            if (signOf(b) != 0) {
                int most = rootOf(divided(x, b * b * b));
                for (int a = 1; a <= most; a++) {
                    total += rows.powers.valueAt(now, f, a * a * b * b * b);
                }
            }
        }
        return now.rest(total);
    }

    private static int freeUpTo(int x) {
        int total = 0;
        for (int d = 1; d * d <= x; d++) {
            total += signOf(d) * divided(x, d * d);
        }
        return total;
    }

    /** A FULL number is a square times the cube of a FREE number, in one way. */
    private static int fullUpTo(int x) {
        int total = 0;
        for (int b = 1; b * b * b <= x; b++) {
            if (signOf(b) != 0) {
                total += rootOf(divided(x, b * b * b));
            }
        }
        return total;
    }

    public int smooth(int f, int x, int y) {
        if (!now.has(f) || !isReach(x) || !isReach(y)) {
            return NONE;
        }
        Row row = rows.upTo(now, f, x);
        rows.sieve.reach(x);
        long total = 0;
        for (int n = 1; n <= x; n++) {
            if (rows.sieve.isSmooth(n, y)) {
                total += row.valueAt(n);
            }
        }
        return now.rest(total);
    }

    public int rough(int f, int x, int y) {
        if (!now.has(f) || !isReach(x) || !isReach(y)) {
            return NONE;
        }
        Row row = rows.upTo(now, f, x);
        rows.sieve.reach(x);
        long total = Math.min(x, 1);
        for (int n = 2; n <= x; n++) {
            if (rows.sieve.leastPrime(n) > y) {
                total += row.valueAt(n);
            }
        }
        return now.rest(total);
    }

    // ---- looking for a number ----

    public int first(int f, int r) {
        if (!now.has(f) || !isRest(r)) {
            return NONE;
        }
        // By growing pieces, as an early answer needs no long row.
        int to = 0;
        for (int piece = 1024; to < now.bound && piece <= 2 * MOST_BOUND; piece *= 2) {
            int from = to + 1;
            to = Math.min(now.bound, piece);
            int n = rows.upTo(now, f, to).placeOf(r, from, to);
            if (n != NONE) {
                return n;
            }
        }
        return ABSENT;
    }

    /** The least n at which they part is a power of a prime: elsewhere both are products of what is ahead. */
    public int parts(int f, int g) {
        if (!now.has(f) || !now.has(g)) {
            return NONE;
        }
        if (f == g) {
            return ABSENT;
        }
        for (int n = 2; n <= now.bound; n++) {
            rows.sieve.reach(n);
            int k = rows.sieve.exponent(n);
            if (k > 0 && doPart(f, g, rows.sieve.leastPrime(n), k)) {
                return n;
            }
        }
        return ABSENT;
    }

    private boolean doPart(int f, int g, int p, int k) {
        return rows.powers.valueAtPower(now, f, p, k) != rows.powers.valueAtPower(now, g, p, k);
    }

    public int best(int f, int x, boolean sums) {
        if (!now.has(f) || !isPlace(x)) {
            return NONE;
        }
        Row row = rows.upTo(now, f, x);
        int found = 1;
        int most = 1;
        for (int n = 2; n <= x; n++) {
            int here = sums ? row.sumTo(n) : row.valueAt(n);
            if (here > most) {
                most = here;
                found = n;
            }
        }
        return found;
    }

    public int howMany(int f, int x, int r) {
        if (!now.has(f) || !isReach(x) || !isRest(r)) {
            return NONE;
        }
        Row row = rows.upTo(now, f, x);
        int total = 0;
        for (int n = 1; n <= x; n++) {
            if (row.valueAt(n) == r) {
                total++;
            }
        }
        return total;
    }

    public int isWhole(int f) {
        if (!now.has(f)) {
            return NONE;
        }
        Row row = rows.upTo(now, f, WHOLE_SIDE * WHOLE_SIDE);
        for (int m = 1; m <= WHOLE_SIDE; m++) {
            for (int n = m; n <= WHOLE_SIDE; n++) {
                long product = (long) row.valueAt(m) * row.valueAt(n);
                if (row.valueAt(m * n) != now.rest(product)) {
                    return 0;
                }
            }
        }
        return 1;
    }

    public int chance(int seed, int n, int f) {
        if (seed < -1 || n < 1 || n > MOST_CHANCES || !now.has(f)) {
            return NONE;
        }
        long last = seed == -1 ? now.seed : seed;
        long total = 0;
        for (int i = 0; i < n; i++) {
            last = drawAfter(last);
            long high = last / 65536 % 32768;
            last = drawAfter(last);
            long drawn = high * 32768 + last / 65536 % 32768;
            total += rows.powers.valueAt(now, f, placeIn(drawn));
        }
        return now.rest(total);
    }

    private static long drawAfter(long last) {
        return (last * 1103515245L + 12345L) & 0x7fffffffL;
    }

    private int placeIn(long drawn) {
        return now.bound < 1 ? 1 : (int) (drawn % now.bound) + 1;
    }

    // ---- what was, and what there is ----

    public int undo() {
        if (!changes.drop()) {
            return NONE;
        }
        int a = changes.firstDropped();
        switch (changes.kindDropped()) {
            case Changes.OF_BOUND:
                now.bound = a;
                break;
            case Changes.OF_MODULUS:
                now.modulus = a;
                break;
            default:
                putNumbers(changes.cellDropped(), a, changes.secondDropped());
                break;
        }
        return changes.size;
    }

    public int keep() {
        image.take(now);
        return now.bound;
    }

    public int back() {
        if (!image.kept) {
            return NONE;
        }
        image.give(now);
        changes.forget();
        rows.forget();
        return now.bound;
    }

    public int count(int what) {
        switch (what) {
            case 0:
                return now.functions;
            case 1:
                return now.ownFunctions();
            case 2:
                return now.bound;
            case 3:
                return now.modulus;
            case 4:
                return changes.size;
            case 5:
                return reader.tape.fed;
            case 6:
                return lastPrime(now.bound);
            default:
                return NONE;
        }
    }

    private static int lastPrime(int x) {
        for (int n = x; n >= 2; n--) {
            if (isPrime(n)) {
                return n;
            }
        }
        return ABSENT;
    }

    // ---- what arguments may be ----

    private boolean isPlace(int n) {
        return n >= 1 && n <= now.bound;
    }

    private boolean isReach(int x) {
        return x >= 0 && x <= now.bound;
    }

    private boolean isRest(int r) {
        return r >= 0 && r < now.modulus;
    }

    private static boolean isOwnPower(int power) {
        return power >= 1 && power <= MOST_OWN_POWER;
    }

    private static boolean isTellable(int a) {
        return a >= -MOST_TOLD && a <= MOST_TOLD;
    }

    // ---- whole numbers ----

    /** Divisors are 1 or more wherever this is used; the test keeps that true of this line alone. */
    private static int divided(int a, int b) {
        return b < 1 ? 0 : a / b;
    }

    /** The root of a number up to the bound, rounded down. */
    private static int rootOf(int x) {
        int root = 0;
        for (int bit = 256; bit > 0; bit /= 2) {
            int tried = root + bit;
            if (tried * tried <= x) {
                root = tried;
            }
        }
        return root;
    }

    private static boolean isPrime(int n) {
        for (int p = 2; p * p <= n; p++) {
            if (n % p == 0) {
                return false;
            }
        }
        return n >= 2;
    }

    /** What mu is at n, with its sign and not as a rest. */
    private static int signOf(int n) {
        int sign = 1;
        int rest = n;
        for (int p = 2; p * p <= rest; p++) {
            if (rest % p == 0) {
                rest /= p;
                sign = -sign;
                if (rest % p == 0) {
                    return 0;
                }
            }
        }
        return rest > 1 ? -sign : sign;
    }

    /** BOUND, MODULUS, seed and the FUNCTIONS, as the TEXT tells them and calls change them. */
    private static final class Plan {
        int bound;
        int modulus;
        int seed;
        int functions;
        final int[] names = new int[MOST_FUNCTIONS];
        final int[] kinds = new int[MOST_FUNCTIONS];
        final int[] firsts = new int[MOST_FUNCTIONS];
        final int[] seconds = new int[MOST_FUNCTIONS];
        final int[] degrees = new int[MOST_FUNCTIONS];
        final int[] colours = new int[MOST_FUNCTIONS];
        /** A bit for the FUNCTION itself and for each one it is made of, however far down. */
        final int[] needs = new int[MOST_FUNCTIONS];
        /** Two numbers for each of the own powers of each FUNCTION. */
        final int[] numbers = new int[MOST_FUNCTIONS * MOST_OWN_POWER * 2];

        Plan() {
            reset();
        }

        void reset() {
            bound = 1000;
            modulus = MOST_MODULUS;
            seed = 0;
            functions = 0;
            Arrays.fill(numbers, 0);
            for (int f = 0; f < KNOWN_FUNCTIONS; f++) {
                add(knownName(f), KNOWN, ABSENT, ABSENT);
                degrees[f] = KNOWN_DEGREES[f];
            }
        }

        private static int knownName(int f) {
            int name = 0;
            for (int i = 0; i < NAME_LETTERS; i++) {
                char letter = KNOWN_NAMES.charAt(f * NAME_LETTERS + i);
                name = name * 32 + (letter == ' ' ? 0 : letter - 'a' + 1);
            }
            return name;
        }

        /** Where the first of the two numbers of an own power stands. */
        static int cell(int f, int power) {
            return (f * MOST_OWN_POWER + power - 1) * 2;
        }

        boolean isFilled() {
            return functions >= MOST_FUNCTIONS;
        }

        boolean has(int f) {
            return f >= 0 && f < functions;
        }

        boolean isOwn(int f) {
            return has(f) && kinds[f] == OWN;
        }

        int find(int name) {
            for (int f = 0; f < functions; f++) {
                if (names[f] == name) {
                    return f;
                }
            }
            return NONE;
        }

        int ownFunctions() {
            int total = 0;
            for (int f = 0; f < functions; f++) {
                if (kinds[f] == OWN) {
                    total++;
                }
            }
            return total;
        }

        /** Degree and colours are put by the caller, who has looked whether they can be. */
        int add(int name, int kind, int one, int other) {
            if (isFilled()) {
                return functions - 1;
            }
            int f = functions;
            functions++;
            names[f] = name;
            kinds[f] = kind;
            firsts[f] = one;
            seconds[f] = other;
            degrees[f] = 0;
            colours[f] = 0;
            needs[f] = 1 << f | (has(one) ? needs[one] : 0) | (has(other) ? needs[other] : 0);
            return f;
        }

        int rest(long number) {
            if (modulus < 2) {
                return 0;
            }
            int left = (int) (number % modulus);
            return left < 0 ? left + modulus : left;
        }
    }

    /** The TAPE, and the TOKENS that its first bytes are cut into. */
    private static final class Tape {
        static final int END = 0;
        static final int STOP = 1;
        static final int NUMBER = 2;
        static final int NEGATIVE = 3;
        static final int NAME = 4;
        /** No TOKEN at all. */
        static final int STRANGE = 5;
        /** The words of the language, from here on in the order in which LANGUAGE has them. */
        static final int BOUND_WORD = 10;
        static final int MODULUS_WORD = 11;
        static final int SEED_WORD = 12;
        static final int OWN_WORD = 13;
        static final int AT_WORD = 14;
        static final int TIMES_WORD = 15;
        static final int OVER_WORD = 16;
        static final int POINT_WORD = 17;
        static final int TWIST_WORD = 18;

        private static final int MOST_BYTES = 700;
        private static final int FED_AT_ONCE = 20;
        /** Beyond every number that may stand in a TEXT. */
        private static final int TOO_MUCH = 100000000;
        private static final int WORD_LETTERS = 7;
        private static final String LANGUAGE =
            "bound  modulusseed   own    at     times  over   point  twist  ";

        int fed;
        private final int[] bytes = new int[MOST_BYTES];
        private final int[] sorts = new int[MOST_BYTES + 1];
        private final int[] starts = new int[MOST_BYTES + 1];
        /** A number's value, a name's letters as one number. */
        private final int[] contents = new int[MOST_BYTES + 1];
        private int length;
        private int tokens;
        private int at;

        boolean hasRoom() {
            return fed + FED_AT_ONCE <= MOST_BYTES;
        }

        void append(int four) {
            for (int shift = 24; shift >= 0 && fed < MOST_BYTES; shift -= 8) {
                bytes[fed] = four >>> shift & 255;
                fed++;
            }
        }

        int sortOf(int token) {
            return token >= 0 && token < tokens ? sorts[token] : END;
        }

        int startOf(int token) {
            return token >= 0 && token < tokens ? starts[token] : length;
        }

        int contentOf(int token) {
            return token >= 0 && token < tokens ? contents[token] : 0;
        }

        /** Cuts the first n bytes into TOKENS, and the TAPE is empty. */
        void cut(int n) {
            length = Math.max(0, Math.min(n, fed));
            fed = 0;
            tokens = 0;
            at = 0;
            for (int step = 0; step < MOST_BYTES && at < length; step++) {
                int start = at;
                if (isBlank()) {
                    at++;
                } else if (isLetter()) {
                    cutWord(start);
                } else if (isDigit()) {
                    put(NUMBER, start, cutDigits());
                } else {
                    cutSign(start);
                }
            }
        }

        private void put(int sort, int start, int content) {
            if (tokens < MOST_BYTES) {
                sorts[tokens] = sort;
                starts[tokens] = start;
                contents[tokens] = content;
                tokens++;
            }
        }

        private int here() {
            return at < length ? bytes[at] : 0;
        }

        private boolean isBlank() {
            return here() == 10 || here() == 32;
        }

        private boolean isLetter() {
            return here() >= 'a' && here() <= 'z';
        }

        private boolean isDigit() {
            return here() >= '0' && here() <= '9';
        }

        private void cutSign(int start) {
            int sign = here();
            at++;
            if (sign == ';') {
                put(STOP, start, 0);
            } else if (sign == '-' && isDigit()) {
                put(NEGATIVE, start, -cutDigits());
            } else {
                put(STRANGE, start, 0);
            }
        }

        private int cutDigits() {
            int number = 0;
            while (at < length && isDigit()) {
                number = Math.min(TOO_MUCH, number * 10 + here() - '0');
                at++;
            }
            return number;
        }

        private void cutWord(int start) {
            int name = 0;
            while (at < length && isLetter()) {
                if (at - start < NAME_LETTERS) {
                    name |= here() - 'a' + 1 << 5 * (NAME_LETTERS - 1 - (at - start));
                }
                at++;
            }
            int word = languageWord(start);
            if (word != NONE) {
                put(word, start, 0);
            } else {
                put(at - start <= NAME_LETTERS ? NAME : STRANGE, start, name);
            }
        }

        /** Which word of the language stands from start to here; NONE: it is none of them. */
        private int languageWord(int start) {
            for (int word = BOUND_WORD; word <= TWIST_WORD; word++) {
                if (spells((word - BOUND_WORD) * WORD_LETTERS, start)) {
                    return word;
                }
            }
            return NONE;
        }

        private boolean spells(int from, int start) {
            if (at - start > WORD_LETTERS || from + WORD_LETTERS > LANGUAGE.length()) {
                return false;
            }
            for (int i = 0; i < WORD_LETTERS; i++) {
                int sign = start + i < at ? bytes[start + i] : ' ';
                if (LANGUAGE.charAt(from + i) != sign) {
                    return false;
                }
            }
            return true;
        }
    }

    /** Reads a TEXT into a plan of its own; the first FAULT along it ends the reading. */
    private static final class Reader {
        private static final int NO_TOKEN = 1;
        private static final int TOO_GREAT = 2;
        private static final int TOLD_ALREADY = 3;
        private static final int NOT_THERE = 4;

        final Tape tape = new Tape();
        int lines;
        int faulty;
        int place = NONE;
        private Plan plan = new Plan();
        private int token;
        private int toldOnce;

        /** The plan is of use only if this answers true. */
        boolean read(int n) {
            tape.cut(n);
            plan.reset();
            token = 0;
            toldOnce = 0;
            lines = 0;
            faulty = 0;
            place = NONE;
            for (int i = 0; i <= n && faulty == 0 && tape.sortOf(token) != Tape.END; i++) {
                if (readLine() && takeStop()) {
                    lines++;
                    token++;
                }
            }
            return faulty == 0;
        }

        /** The plan that was read, for one that the next TEXT may be read into. */
        Plan swap(Plan spare) {
            Plan ready = plan;
            plan = spare;
            return ready;
        }

        // ---- what must come next ----

        private boolean refuse(int what) {
            faulty = what;
            place = tape.startOf(token);
            return false;
        }

        private boolean takeStop() {
            token++;
            return tape.sortOf(token) == Tape.STOP || refuse(NO_TOKEN);
        }

        private boolean takeNumber(int least, int most) {
            token++;
            if (tape.sortOf(token) != Tape.NUMBER) {
                return refuse(NO_TOKEN);
            }
            int number = tape.contentOf(token);
            return number >= least && number <= most || refuse(TOO_GREAT);
        }

        private boolean takeSigned() {
            token++;
            int sort = tape.sortOf(token);
            if (sort != Tape.NUMBER && sort != Tape.NEGATIVE) {
                return refuse(NO_TOKEN);
            }
            return isTellable(tape.contentOf(token)) || refuse(TOO_GREAT);
        }

        /** The name of a further FUNCTION, asked for at the word of its LINE; NONE with a FAULT. */
        private int takeNewName() {
            if (plan.isFilled()) {
                refuse(TOO_GREAT);
                return NONE;
            }
            token++;
            if (tape.sortOf(token) != Tape.NAME) {
                refuse(NO_TOKEN);
                return NONE;
            }
            int name = tape.contentOf(token);
            if (plan.find(name) != NONE) {
                refuse(TOLD_ALREADY);
                return NONE;
            }
            return name;
        }

        /** The number of a FUNCTION that is there; NONE with a FAULT. */
        private int takeFunction() {
            token++;
            if (tape.sortOf(token) != Tape.NAME) {
                refuse(NO_TOKEN);
                return NONE;
            }
            int f = plan.find(tape.contentOf(token));
            if (f == NONE) {
                refuse(NOT_THERE);
            }
            return f;
        }

        // ---- LINES ----

        private boolean readLine() {
            int word = tape.sortOf(token);
            switch (word) {
                case Tape.BOUND_WORD:
                case Tape.MODULUS_WORD:
                case Tape.SEED_WORD:
                    return readSetting(word);
                case Tape.OWN_WORD:
                    return readOwn();
                case Tape.AT_WORD:
                    return readAt();
                case Tape.TIMES_WORD:
                case Tape.POINT_WORD:
                    return readPair(word);
                case Tape.OVER_WORD:
                    return readOver();
                case Tape.TWIST_WORD:
                    return readTwist();
                default:
                    return refuse(NO_TOKEN);
            }
        }

        private boolean readSetting(int word) {
            int bit = 1 << word - Tape.BOUND_WORD;
            if ((toldOnce & bit) != 0) {
                return refuse(TOLD_ALREADY);
            }
            toldOnce |= bit;
            switch (word) {
                case Tape.BOUND_WORD:
                    if (!takeNumber(1, MOST_BOUND)) {
                        return false;
                    }
                    plan.bound = tape.contentOf(token);
                    return true;
                case Tape.MODULUS_WORD:
                    if (!takeNumber(2, MOST_MODULUS)) {
                        return false;
                    }
                    plan.modulus = tape.contentOf(token);
                    return true;
                default:
                    if (!takeNumber(0, MOST_SEED)) {
                        return false;
                    }
                    plan.seed = tape.contentOf(token);
                    return true;
            }
        }

        private boolean readAt() {
            int f = takeFunction();
            if (f == NONE) {
                return false;
            }
            if (!plan.isOwn(f)) {
                return refuse(NOT_THERE);
            }
            if (!takeNumber(1, MOST_OWN_POWER)) {
                return false;
            }
            int cell = Plan.cell(f, tape.contentOf(token));
            if (!takeSigned() || !takeSigned()) {
                return false;
            }
            plan.numbers[cell] = tape.contentOf(token - 1);
            plan.numbers[cell + 1] = tape.contentOf(token);
            return true;
        }

        private boolean readOwn() {
            int name = takeNewName();
            if (name == NONE) {
                return false;
            }
            int f = plan.add(name, OWN, ABSENT, ABSENT);
            plan.degrees[f] = 1;
            return true;
        }

        private boolean readPair(int word) {
            int name = takeNewName();
            if (name == NONE) {
                return false;
            }
            int one = takeFunction();
            if (one == NONE) {
                return false;
            }
            int other = takeFunction();
            if (other == NONE) {
                return false;
            }
            return word == Tape.TIMES_WORD ? addTimes(name, one, other) : addPoint(name, one, other);
        }

        private boolean addTimes(int name, int one, int other) {
            int f = plan.add(name, TIMES, one, other);
            plan.degrees[f] = Math.max(plan.degrees[one], plan.degrees[other]);
            plan.colours[f] = plan.colours[one] | plan.colours[other];
            return true;
        }

        private boolean addPoint(int name, int one, int other) {
            int degree = plan.degrees[one] + plan.degrees[other];
            boolean bothColoured = plan.colours[one] != 0 && plan.colours[other] != 0;
            if (degree > MOST_DEGREE || bothColoured) {
                return refuse(TOO_GREAT);
            }
            int f = plan.add(name, POINT, one, other);
            plan.degrees[f] = degree;
            plan.colours[f] = plan.colours[one] | plan.colours[other];
            return true;
        }

        private boolean readOver() {
            int name = takeNewName();
            if (name == NONE) {
                return false;
            }
            int one = takeFunction();
            if (one == NONE) {
                return false;
            }
            int f = plan.add(name, OVER, one, ABSENT);
            plan.degrees[f] = plan.degrees[one];
            plan.colours[f] = plan.colours[one];
            return true;
        }

        private boolean readTwist() {
            int name = takeNewName();
            if (name == NONE) {
                return false;
            }
            int one = takeFunction();
            if (one == NONE) {
                return false;
            }
            if (plan.colours[one] != 0) {
                return refuse(TOO_GREAT);
            }
            if (!takeNumber(3, 4)) {
                return false;
            }
            int f = plan.add(name, TWIST, one, ABSENT);
            plan.degrees[f] = plan.degrees[one];
            plan.colours[f] = tape.contentOf(token) == 3 ? BY_THREE : BY_FOUR;
            return true;
        }
    }

    /** What calls have changed, the latest of it, so that it can be undone. */
    private static final class Changes {
        static final int OF_BOUND = 0;
        static final int OF_MODULUS = 1;
        static final int OF_NUMBERS = 2;
        private static final int MOST = 20;

        int size;
        private int top;
        private final int[] kinds = new int[MOST];
        private final int[] cells = new int[MOST];
        private final int[] ones = new int[MOST];
        private final int[] others = new int[MOST];

        void forget() {
            size = 0;
        }

        /** The oldest one goes where there would be too many. */
        void push(int kind, int cell, int one, int other) {
            kinds[top] = kind;
            cells[top] = cell;
            ones[top] = one;
            others[top] = other;
            top = (top + 1) % MOST;
            size = Math.min(size + 1, MOST);
        }

        /** Takes the latest one off; false: there is none. */
        boolean drop() {
            if (size < 1) {
                return false;
            }
            size--;
            top = (top + MOST - 1) % MOST;
            return true;
        }

        int kindDropped() {
            return kinds[top];
        }

        int cellDropped() {
            return cells[top];
        }

        int firstDropped() {
            return ones[top];
        }

        int secondDropped() {
            return others[top];
        }
    }

    /** The IMAGE: what calls can change, as it was when it was kept. */
    private static final class Image {
        boolean kept;
        private int bound;
        private int modulus;
        private final int[] numbers = new int[MOST_FUNCTIONS * MOST_OWN_POWER * 2];

        void take(Plan plan) {
            kept = true;
            bound = plan.bound;
            modulus = plan.modulus;
            System.arraycopy(plan.numbers, 0, numbers, 0, numbers.length);
        }

        void give(Plan plan) {
            plan.bound = bound;
            plan.modulus = modulus;
            System.arraycopy(numbers, 0, plan.numbers, 0, numbers.length);
        }
    }

    /** The least primes of numbers; the row grows as it is needed. */
    private static final class Sieve {
        /** 0 for primes. */
        int[] least = new int[2];

        void reach(int x) {
            if (x < least.length || x > MOST_BOUND) {
                return;
            }
            int old = least.length - 1;
            least = Arrays.copyOf(least, grown(least.length, x));
            int last = least.length - 1;
            for (int p = 2; p * p <= last; p++) {
                if (least[p] == 0) {
                    markFrom(Math.max(p * p, (old / p + 1) * p), p);
                }
            }
        }

        private void markFrom(int from, int p) {
            for (int n = from; n < least.length; n += p) {
                if (least[n] == 0) {
                    least[n] = p;
                }
            }
        }

        /** Of a number 2 or more that has been reached. */
        int leastPrime(int n) {
            int found = n < 0 || n >= least.length ? 0 : least[n];
            if (found > 1) {
                return found;
            }
            return n > 1 ? n : 2;
        }

        boolean isSmooth(int n, int y) {
            int rest = n;
            // Once what is left is no more than y, so are its primes.
            for (int i = 0; i < MOST_POWER && rest > 1 && rest > y; i++) {
                int p = leastPrime(rest);
                if (p > y) {
                    return false;
                }
                rest /= p;
            }
            return true;
        }

        /** k, if n is a prime to the k; 0 if it is no power of a prime. */
        int exponent(int n) {
            int p = leastPrime(n);
            int rest = n;
            int k = 0;
            for (; k < MOST_POWER && rest % p == 0; k++) {
                rest /= p;
            }
            return rest == 1 ? k : 0;
        }
    }

    /** How long a row becomes that must have a place for x: doubled, so that all its lengths stay few. */
    private static int grown(int length, int x) {
        return Math.max(x + 1, Math.min(2 * length, MOST_BOUND + 1));
    }

    /** What FUNCTIONS are at powers of one prime. */
    private static final class Powers {
        private static final int WIDTH = MOST_POWER + 1;
        private final int[] ofPrime = new int[WIDTH];
        private final int[] cells = new int[MOST_FUNCTIONS * WIDTH];

        Powers() {
            ofPrime[0] = 1;
            for (int f = 0; f < MOST_FUNCTIONS; f++) {
                cells[f * WIDTH] = 1;
            }
        }

        int valueAt(Plan plan, int f, int n) {
            long product = 1;
            int rest = n;
            for (int p = 2; p * p <= rest; p++) {
                int k = 0;
                for (; k < MOST_POWER && rest % p == 0; k++) {
                    rest /= p;
                }
                if (k > 0) {
                    product = plan.rest(product * valueAtPower(plan, f, p, k));
                }
            }
            return rest > 1 ? plan.rest(product * valueAtPower(plan, f, rest, 1)) : (int) product;
        }

        int valueAtPower(Plan plan, int f, int p, int k) {
            if (!plan.has(f) || k < 0 || k > MOST_POWER) {
                return 0;
            }
            int needed = plan.needs[f];
            for (int i = 1; i <= k; i++) {
                ofPrime[i] = plan.rest((long) ofPrime[i - 1] * p);
                // A FUNCTION is made of those ahead of it alone, so one way along is enough.
                for (int g = 0; g <= f; g++) {
                    if ((needed >> g & 1) != 0) {
                        cells[g * WIDTH + i] = plan.rest(cellOf(plan, g, p, i));
                    }
                }
            }
            return cells[f * WIDTH + k];
        }

        private long cellOf(Plan plan, int g, int p, int i) {
            int one = Math.max(plan.firsts[g], 0) * WIDTH;
            int other = Math.max(plan.seconds[g], 0) * WIDTH;
            switch (plan.kinds[g]) {
                case OWN:
                    return ownCell(plan, g, p, i);
                case TIMES:
                    return crossed(one, other, 0, i);
                case OVER:
                    return -crossed(one, g * WIDTH, 1, i);
                case POINT:
                    return (long) cells[one + i] * cells[other + i];
                case TWIST:
                    return (long) cells[one + i] * sign(plan.colours[g], p, i);
                default:
                    return knownCell(g, i);
            }
        }

        private long knownCell(int g, int i) {
            switch (g) {
                case 1:
                    return ofPrime[i];
                case 2:
                    return i == 1 ? -1 : 0;
                case 3:
                    return ofPrime[i] - ofPrime[i - 1];
                case 4:
                    return i + 1;
                case 5:
                    return cells[g * WIDTH + i - 1] + ofPrime[i];
                default:
                    return 1;
            }
        }

        private static long ownCell(Plan plan, int g, int p, int i) {
            if (!isOwnPower(i)) {
                return 0;
            }
            int cell = Plan.cell(g, i);
            return plan.numbers[cell] + (long) plan.numbers[cell + 1] * p;
        }

        /** All products of two cells whose powers make i together, the first one's from a power on. */
        private long crossed(int one, int other, int from, int i) {
            long total = 0;
            for (int j = from; j <= i; j++) {
                total += (long) cells[one + j] * cells[other + i - j];
            }
            return total;
        }

        private static int sign(int colour, int p, int i) {
            int by = colour == BY_THREE ? 3 : 4;
            int left = p % by;
            if (left == 1) {
                return 1;
            }
            if (left != by - 1) {
                return 0;
            }
            return i % 2 == 0 ? 1 : -1;
        }
    }

    /** The SUMS of one FUNCTION by one MODULUS; VALUES are told from two SUMS next to each other. */
    private static final class Row {
        int[] sums = new int[2];
        int function = NONE;
        int modulus;
        int filled;
        int used;

        void begin(int f, int m) {
            function = f;
            modulus = m;
            filled = 1;
            sums[0] = 0;
            sums[1] = 1;
        }

        void makeRoom(int x) {
            if (x >= sums.length && x <= MOST_BOUND) {
                sums = Arrays.copyOf(sums, grown(sums.length, x));
            }
        }

        void append(int next) {
            if (filled >= 0 && filled + 1 < sums.length) {
                int together = sums[filled] + next;
                filled++;
                sums[filled] = together >= modulus ? together - modulus : together;
            }
        }

        /** The next VALUE is the product of what is at two places 1 on that are filled. */
        void appendProduct(int a, int b) {
            if (a < 1 || a > filled || b < 1 || b > filled || modulus < 2) {
                return;
            }
            int one = sums[a] - sums[a - 1];
            int other = sums[b] - sums[b - 1];
            int left = (int) ((long) one * other % modulus);
            append(left < 0 ? left + modulus : left);
        }

        int sumTo(int x) {
            return x >= 0 && x <= filled ? sums[x] : 0;
        }

        int stretch(int a, int b) {
            int less = sumTo(b) - sumTo(a - 1);
            return less < 0 ? less + modulus : less;
        }

        int valueAt(int n) {
            if (n < 1 || n > filled) {
                return 0;
            }
            int less = sums[n] - sums[n - 1];
            return less < 0 ? less + modulus : less;
        }

        /** The least place of a stretch whose SUM is r; NONE: there is none. */
        int placeOf(int r, int from, int to) {
            for (int n = from; n <= to; n++) {
                if (sumTo(n) == r) {
                    return n;
                }
            }
            return NONE;
        }
    }

    /** A few rows of SUMS, used again for whichever FUNCTIONS were asked for last. */
    private static final class Rows {
        private static final int MOST_ROWS = 4;
        /** Also asked from outside, so that least primes are kept once. */
        final Sieve sieve = new Sieve();
        final Powers powers = new Powers();
        private final Row[] rows = new Row[MOST_ROWS];
        private int turn;

        Rows() {
            for (int i = 0; i < MOST_ROWS; i++) {
                rows[i] = new Row();
            }
        }

        void forget() {
            for (int i = 0; i < MOST_ROWS; i++) {
                rows[i].function = NONE;
            }
        }

        /** The row stays as it is while one other is asked for: the one longest unused makes way. */
        Row upTo(Plan plan, int f, int x) {
            Row row = rowOf(f, plan.modulus);
            turn++;
            row.used = turn;
            if (x > row.filled) {
                sieve.reach(x);
                row.makeRoom(x);
                fill(plan, row, x);
            }
            return row;
        }

        private Row rowOf(int f, int modulus) {
            Row oldest = rows[0];
            for (int i = 0; i < MOST_ROWS; i++) {
                Row row = rows[i];
                if (row.function == f && row.modulus == modulus) {
                    return row;
                }
                if (row.used < oldest.used) {
                    oldest = row;
                }
            }
            oldest.begin(f, modulus);
            return oldest;
        }

        /** The dearest loop of the class, so it looks into the rows itself. */
        private void fill(Plan plan, Row row, int x) {
            int[] least = sieve.least;
            int last = Math.min(x, Math.min(row.sums.length, least.length) - 1);
            for (int n = row.filled + 1; n <= last; n++) {
                int p = least[n];
                if (p < 2) {
                    row.append(powers.valueAtPower(plan, row.function, n, 1));
                    continue;
                }
                int rest = n / p;
                int k = 1;
                for (; k < MOST_POWER && rest % p == 0; k++) {
                    rest /= p;
                }
                if (rest < 2) {
                    row.append(powers.valueAtPower(plan, row.function, p, k));
                } else {
                    row.appendProduct(n / rest, rest);
                }
            }
        }
    }

    /** How many couples up to a QUOTIENT of x have no common divisor but 1, for each QUOTIENT. */
    private static final class Couples {
        private static final int MOST_ROOT = 447;
        private final long[] small = new long[MOST_ROOT + 1];
        /** At i: of x by i. */
        private final long[] great = new long[MOST_ROOT + 1];
        private int x;
        private int root;

        void reach(int to) {
            if (x == to || to < 0 || to > MOST_BOUND) {
                return;
            }
            x = to;
            root = rootOf(to);
            for (int q = 1; q <= root; q++) {
                small[q] = counted(q);
            }
            for (int i = root; i >= 1; i--) {
                great[i] = counted(x / i);
            }
        }

        /** Of a QUOTIENT of the x that has been reached, or of 0. */
        long without(int q) {
            if (q <= root) {
                return q < 1 ? 0 : small[q];
            }
            int i = x / q;
            return i < 1 || i > root ? 0 : great[i];
        }

        /** All couples but those with a greatest common divisor of 2 on. */
        private long counted(int q) {
            long left = (long) q * q;
            for (int d = 2, last = 0; d <= q; d = last + 1) {
                int part = q / d;
                last = Math.max(d, divided(q, part));
                left -= (last - d + 1) * without(part);
            }
            return left;
        }
    }
}
