import java.math.BigInteger;
import java.util.ArrayDeque;
import java.util.ArrayList;
import java.util.Arrays;
import java.util.HashMap;
import java.util.List;
import java.util.Map;
import java.util.TreeMap;
import java.util.TreeSet;
import java.util.regex.Matcher;
import java.util.regex.Pattern;

/** The document by brute force, with ways of its own: sums over divisors, couples one by one, all FAULTS of a line. */
final class Model {
    static final List<String> WORDS =
        List.of("bound", "modulus", "seed", "own", "at", "times", "over", "point", "twist");

    static final class Function {
        final String name;
        final int kind;
        final int one;
        final int other;
        int by;
        int degree;
        int colours;
        int[][] numbers = new int[7][2];

        Function(String name, int kind, int one, int other, int degree, int colours) {
            this.name = name;
            this.kind = kind;
            this.one = one;
            this.other = other;
            this.degree = degree;
            this.colours = colours;
        }

        Function copy() {
            Function f = new Function(name, kind, one, other, degree, colours);
            f.by = by;
            for (int i = 0; i < 7; i++) {
                f.numbers[i] = numbers[i].clone();
            }
            return f;
        }
    }

    static final class State {
        int bound = 1000;
        int modulus = 1000003;
        int seed = 0;
        List<Function> functions = new ArrayList<>();

        State() {
            String[] names = {"one", "id", "mu", "phi", "tau", "sigma"};
            for (int i = 0; i < 6; i++) {
                functions.add(new Function(names[i], 0, -2, -2, i % 2, 0));
            }
        }

        State copy() {
            State s = new State();
            s.bound = bound;
            s.modulus = modulus;
            s.seed = seed;
            s.functions = new ArrayList<>();
            for (Function f : functions) {
                s.functions.add(f.copy());
            }
            return s;
        }
    }

    State state = new State();
    final StringBuilder tape = new StringBuilder();
    final ArrayDeque<State> past = new ArrayDeque<>();
    State image;
    int fault = 0;
    int place = -1;
    private final Map<Integer, long[]> cache = new HashMap<>();

    // ---- the TEXT ----

    int feed(int... numbers) {
        if (tape.length() + 20 > 700) {
            return -1;
        }
        for (int n : numbers) {
            for (int i = 3; i >= 0; i--) {
                tape.append((char) (n >>> 8 * i & 255));
            }
        }
        return tape.length();
    }

    int text(int n) {
        if (n < 0 || n > tape.length()) {
            return -2;
        }
        String text = tape.substring(0, n);
        tape.setLength(0);
        Parser parser = new Parser(text);
        State read = parser.parse();
        fault = parser.fault;
        place = parser.place;
        if (read == null) {
            return -1;
        }
        state = read;
        image = null;
        past.clear();
        cache.clear();
        return parser.lines;
    }

    static final class Parser {
        private static final Pattern TOKEN = Pattern.compile("[a-z]+|-?[0-9]+|[^\\n ]", Pattern.DOTALL);
        final String text;
        final List<String> tokens = new ArrayList<>();
        final List<Integer> places = new ArrayList<>();
        final TreeMap<Integer, TreeSet<Integer>> faults = new TreeMap<>();
        final TreeSet<String> once = new TreeSet<>();
        final State read = new State();
        int lines;
        int fault;
        int place = -1;

        Parser(String text) {
            this.text = text;
            Matcher m = TOKEN.matcher(text);
            while (m.find()) {
                tokens.add(m.group());
                places.add(m.start());
            }
        }

        private void blame(int at, int what) {
            int where = at < places.size() ? places.get(at) : text.length();
            faults.computeIfAbsent(where, k -> new TreeSet<>()).add(what);
        }

        private String token(int at) {
            return at < tokens.size() ? tokens.get(at) : "";
        }

        private int find(String name) {
            for (int i = 0; i < read.functions.size(); i++) {
                if (read.functions.get(i).name.equals(name)) {
                    return i;
                }
            }
            return -1;
        }

        /** Each line's form is a row of letters: f a new name, o an own one, w a function, b n p t s numbers, m signed. */
        State parse() {
            int at = 0;
            while (at < tokens.size() && faults.isEmpty()) {
                at = line(at);
                lines++;
            }
            if (faults.isEmpty()) {
                return read;
            }
            place = faults.firstKey();
            fault = faults.get(place).first();
            return null;
        }

        private static final Map<String, String> FORMS = Map.of("bound", "b", "modulus", "n", "seed", "s", "own", "f",
            "at", "opmm", "times", "fww", "over", "fw", "point", "fww", "twist", "fwt");

        private int line(int at) {
            String word = token(at);
            String form = FORMS.get(word);
            if (form == null) {
                blame(at, 1);
                return at;
            }
            if ("bns".contains(form) && !once.add(word)) {
                blame(at, 3);
            }
            if (form.startsWith("f") && read.functions.size() == 12) {
                blame(at, 2);
            }
            String[] parts = new String[form.length()];
            for (int i = 0; i < form.length(); i++) {
                parts[i] = token(at + 1 + i);
                if (!part(form.charAt(i), at + 1 + i, parts[i])) {
                    return at;
                }
                if (i > 0 && form.charAt(i) == 'w') {
                    meaning(word, at + 1 + i, i, parts);
                }
            }
            if (!token(at + 1 + form.length()).equals(";")) {
                blame(at + 1 + form.length(), 1);
            }
            if (faults.isEmpty()) {
                apply(word, parts);
            }
            return at + form.length() + 2;
        }

        private boolean part(char sort, int at, String token) {
            if ("fow".indexOf(sort) >= 0) {
                if (!token.matches("[a-z]{1,6}") || WORDS.contains(token)) {
                    blame(at, 1);
                    return false;
                }
                int f = find(token);
                if (sort == 'f' && f >= 0) {
                    blame(at, 3);
                }
                if (sort == 'w' && f < 0 || sort == 'o' && (f < 0 || read.functions.get(f).kind != 1)) {
                    blame(at, 4);
                    return false;
                }
                return true;
            }
            if (!token.matches(sort == 'm' ? "-?[0-9]+" : "[0-9]+")) {
                blame(at, 1);
                return false;
            }
            int[] ends = switch (sort) {
                case 'b' -> new int[] {1, 200000};
                case 'n' -> new int[] {2, 1000003};
                case 's' -> new int[] {0, 99999};
                case 'p' -> new int[] {1, 6};
                case 't' -> new int[] {3, 4};
                default -> new int[] {-999, 999};
            };
            BigInteger number = new BigInteger(token);
            if (number.compareTo(BigInteger.valueOf(ends[0])) < 0 || number.compareTo(BigInteger.valueOf(ends[1])) > 0) {
                blame(at, 2);
            }
            return true;
        }

        private void meaning(String word, int at, int i, String[] parts) {
            Function last = read.functions.get(find(parts[i]));
            if (word.equals("twist") && last.colours != 0) {
                blame(at, 2);
            }
            if (word.equals("point") && i == 2) {
                Function one = read.functions.get(find(parts[1]));
                if (one.degree + last.degree > 3 || one.colours != 0 && last.colours != 0) {
                    blame(at, 2);
                }
            }
        }

        private void apply(String word, String[] parts) {
            switch (word) {
                case "bound" -> read.bound = new BigInteger(parts[0]).intValue();
                case "modulus" -> read.modulus = new BigInteger(parts[0]).intValue();
                case "seed" -> read.seed = new BigInteger(parts[0]).intValue();
                case "own" -> read.functions.add(new Function(parts[0], 1, -2, -2, 1, 0));
                case "at" -> read.functions.get(find(parts[0])).numbers[new BigInteger(parts[1]).intValue()] =
                    new int[] {new BigInteger(parts[2]).intValue(), new BigInteger(parts[3]).intValue()};
                default -> make(word, parts);
            }
        }

        private void make(String word, String[] parts) {
            int one = find(parts[1]);
            Function a = read.functions.get(one);
            int other = word.equals("times") || word.equals("point") ? find(parts[2]) : -2;
            Function b = other < 0 ? a : read.functions.get(other);
            Function made = switch (word) {
                case "times" -> new Function(parts[0], 2, one, other, Math.max(a.degree, b.degree), a.colours | b.colours);
                case "over" -> new Function(parts[0], 3, one, -2, a.degree, a.colours);
                case "point" -> new Function(parts[0], 4, one, other, a.degree + b.degree, a.colours | b.colours);
                default -> new Function(parts[0], 5, one, -2, a.degree, new BigInteger(parts[2]).intValue() - 2);
            };
            made.by = word.equals("twist") ? new BigInteger(parts[2]).intValue() : 0;
            read.functions.add(made);
        }
    }

    // ---- FUNCTIONS ----

    boolean has(int f) {
        return f >= 0 && f < state.functions.size();
    }

    boolean own(int f) {
        return has(f) && state.functions.get(f).kind == 1;
    }

    int named(int letters) {
        for (int i = 0; i < state.functions.size(); i++) {
            if (Check.letters(state.functions.get(i).name) == letters) {
                return i;
            }
        }
        return -1;
    }

    String function(int f, int what) {
        if (!has(f)) {
            return "IndexOutOfBoundsException";
        }
        Function g = state.functions.get(f);
        int[] all = {g.kind, g.one, g.other, g.degree, g.colours};
        return what < 0 || what > 4 ? "NoSuchElementException" : Integer.toString(all[what]);
    }

    int told(int f, int power, boolean second) {
        return !own(f) || power < 1 || power > 6 ? -1000 : state.functions.get(f).numbers[power][second ? 1 : 0];
    }

    private void change() {
        past.addLast(state.copy());
        if (past.size() > 20) {
            past.removeFirst();
        }
        cache.clear();
    }

    int bound(int n) {
        if (n < 1 || n > 200000) {
            return -1;
        }
        change();
        int old = state.bound;
        state.bound = n;
        return old;
    }

    int modulus(int m) {
        if (m < 2 || m > 1000003) {
            return -1;
        }
        change();
        int old = state.modulus;
        state.modulus = m;
        return old;
    }

    boolean set(int f, int power, int a, int b) {
        if (!own(f) || power < 1 || power > 6 || a < -999 || a > 999 || b < -999 || b > 999) {
            return false;
        }
        change();
        state.functions.get(f).numbers[power] = new int[] {a, b};
        return true;
    }

    /** VALUES at 1 .. n with their signs taken off, by sums over divisors. */
    private long[] row(int f, int upTo) {
        int n = Math.max(upTo, 1);
        long[] known = cache.get(f);
        if (known != null && known.length > n) {
            return known;
        }
        Function g = state.functions.get(f);
        long m = state.modulus;
        long[] row = new long[n + 1];
        row[1] = 1;
        if (g.kind == 2) {
            long[] a = row(g.one, n);
            long[] b = row(g.other, n);
            row[1] = 0;
            for (int d = 1; d <= n; d++) {
                for (int e = 1; d * (long) e <= n; e++) {
                    row[d * e] = (row[d * e] + a[d] * b[e]) % m;
                }
            }
        } else if (g.kind == 3) {
            long[] a = row(g.one, n);
            for (int d = 1; d <= n; d++) {
                for (int e = 2; d * (long) e <= n; e++) {
                    row[d * e] = (row[d * e] - row[d] * a[e] % m + m) % m;
                }
            }
        } else {
            for (int i = 2; i <= n; i++) {
                row[i] = single(g, f, i, n);
            }
        }
        cache.put(f, row);
        return row;
    }

    private long single(Function g, int f, int i, int n) {
        long m = state.modulus;
        if (g.kind == 4) {
            return row(g.one, n)[i] * row(g.other, n)[i] % m;
        }
        if (g.kind == 5) {
            int left = i % g.by;
            int sign = left == 1 ? 1 : left == g.by - 1 ? -1 : 0;
            return (row(g.one, n)[i] * sign + m) % m;
        }
        if (g.kind == 1) {
            return ownValue(g, i);
        }
        return knownValue(f, i);
    }

    private long ownValue(Function g, int n) {
        BigInteger product = BigInteger.ONE;
        for (int p = 2; n > 1; p++) {
            int k = 0;
            while (n % p == 0) {
                n /= p;
                k++;
            }
            if (k > 6) {
                return 0;
            }
            if (k > 0) {
                product = product.multiply(BigInteger.valueOf(g.numbers[k][0] + (long) g.numbers[k][1] * p));
            }
        }
        return product.mod(BigInteger.valueOf(state.modulus)).longValue();
    }

    /** By what these functions are among numbers, not at powers. */
    private long knownValue(int f, int n) {
        long m = state.modulus;
        if (f < 2) {
            return f == 0 ? 1 : n % m;
        }
        int divisors = 0;
        long together = 0;
        int coprime = 0;
        for (int d = 1; d <= n; d++) {
            if (n % d == 0) {
                divisors++;
                together += d;
            }
            if (f == 3 && gcd(d, n) == 1) {
                coprime++;
            }
        }
        if (f == 2) {
            int sign = 1;
            for (int p = 2; n > 1; p++) {
                if (n % p == 0) {
                    sign = -sign;
                    n /= p;
                    if (n % p == 0) {
                        return 0;
                    }
                }
            }
            return (sign + m) % m;
        }
        return (f == 3 ? coprime : f == 4 ? divisors : together) % m;
    }

    static int gcd(int a, int b) {
        return b == 0 ? a : gcd(b, a % b);
    }

    private boolean place(int n) {
        return n >= 1 && n <= state.bound;
    }

    private boolean reach(int x) {
        return x >= 0 && x <= state.bound;
    }

    private int rest(long n) {
        return (int) Math.floorMod(n, (long) state.modulus);
    }

    int value(int f, int n) {
        return has(f) && place(n) ? (int) row(f, n)[n] : -1;
    }

    int atPower(int f, int p, int k) {
        if (!has(f) || p < 2 || p > 200003 || k < 0 || k > 17) {
            return -1;
        }
        return powers(f, p)[k].mod(BigInteger.valueOf(state.modulus)).intValue();
    }

    /** Whole numbers, not rests. */
    private BigInteger[] powers(int f, int p) {
        Function g = state.functions.get(f);
        BigInteger prime = BigInteger.valueOf(p);
        BigInteger[] a = g.one >= 0 ? powers(g.one, p) : null;
        BigInteger[] b = g.other >= 0 ? powers(g.other, p) : null;
        BigInteger[] all = new BigInteger[18];
        all[0] = BigInteger.ONE;
        for (int k = 1; k < 18; k++) {
            BigInteger at = BigInteger.ZERO;
            if (g.kind == 0) {
                BigInteger high = prime.pow(k);
                switch (f) {
                    case 0 -> at = BigInteger.ONE;
                    case 1 -> at = high;
                    case 2 -> at = BigInteger.valueOf(k == 1 ? -1 : 0);
                    case 3 -> at = high.subtract(prime.pow(k - 1));
                    case 4 -> at = BigInteger.valueOf(k + 1);
                    default -> at = prime.pow(k + 1).subtract(BigInteger.ONE).divide(BigInteger.valueOf(p - 1));
                }
            } else if (g.kind == 1 && k <= 6) {
                at = BigInteger.valueOf(g.numbers[k][0] + (long) g.numbers[k][1] * p);
            } else if (g.kind == 2) {
                for (int i = 0; i <= k; i++) {
                    at = at.add(a[i].multiply(b[k - i]));
                }
            } else if (g.kind == 3) {
                for (int i = 0; i < k; i++) {
                    at = at.subtract(all[i].multiply(a[k - i]));
                }
            } else if (g.kind == 4) {
                at = a[k].multiply(b[k]);
            } else if (g.kind == 5) {
                int left = p % g.by;
                int sign = left == 1 ? 1 : left == g.by - 1 ? -1 : 0;
                at = a[k].multiply(BigInteger.valueOf(sign).pow(k));
            }
            all[k] = at;
        }
        return all;
    }

    int sum(int f, int x) {
        return has(f) && reach(x) ? rest(Arrays.stream(row(f, x), 1, x + 1).sum()) : -1;
    }

    int range(int f, int a, int b) {
        return has(f) && place(a) && place(b) && a <= b ? rest(Arrays.stream(row(f, b), a, b + 1).sum()) : -1;
    }

    static boolean prime(int n) {
        for (int d = 2; d < n; d++) {
            if (n % d == 0) {
                return false;
            }
        }
        return n > 1;
    }

    int primes(int j, int x) {
        if (j < 0 || j > 3 || !reach(x)) {
            return -1;
        }
        BigInteger total = BigInteger.ZERO;
        for (int p = 2; p <= x; p++) {
            if (prime(p)) {
                total = total.add(BigInteger.valueOf(p).pow(j));
            }
        }
        return total.mod(BigInteger.valueOf(state.modulus)).intValue();
    }

    private List<int[]> blockList(int x) {
        List<int[]> list = new ArrayList<>();
        for (int d = 1; d <= x; d++) {
            if (list.isEmpty() || list.get(list.size() - 1)[0] != x / d) {
                list.add(new int[] {x / d, d, d});
            }
            list.get(list.size() - 1)[2] = d;
        }
        return list;
    }

    int quotients(int x) {
        return place(x) ? blockList(x).size() : -1;
    }

    int blockPart(int x, int i, int part) {
        if (!place(x) || i < 0) {
            return -1;
        }
        List<int[]> list = blockList(x);
        return i < list.size() ? list.get(i)[part] : -2;
    }

    int hyper(int f, int g, int x) {
        if (!has(f) || !has(g) || !reach(x)) {
            return -1;
        }
        long total = 0;
        for (int d = 1; d <= x; d++) {
            for (int e = 1; d * e <= x; e++) {
                total = (total + row(f, x)[d] * row(g, x)[e]) % state.modulus;
            }
        }
        return (int) total;
    }

    int common(int f, int x) {
        if (!has(f) || !reach(x)) {
            return -1;
        }
        long total = 0;
        for (int i = 1; i <= x; i++) {
            for (int j = 1; j <= x; j++) {
                total += row(f, x)[gcd(i, j)];
            }
        }
        return rest(total);
    }

    long coprime(int x) {
        if (!reach(x)) {
            return -1;
        }
        long total = 0;
        for (int i = 1; i <= x; i++) {
            for (int j = 1; j <= x; j++) {
                total += gcd(i, j) == 1 ? 1 : 0;
            }
        }
        return total;
    }

    static boolean free(int n) {
        for (int p = 2; p * p <= n; p++) {
            if (n % (p * p) == 0) {
                return false;
            }
        }
        return true;
    }

    static boolean fullNumber(int n) {
        for (int p = 2; p <= n; p++) {
            if (prime(p) && n % p == 0 && n % (p * p) != 0) {
                return false;
            }
        }
        return true;
    }

    int many(int what, int x) {
        if (what < 0 || what > 1 || !reach(x)) {
            return -1;
        }
        int total = 0;
        for (int n = 1; n <= x; n++) {
            total += (what == 0 ? free(n) : fullNumber(n)) ? 1 : 0;
        }
        return total;
    }

    int full(int i) {
        if (i < 0) {
            return -1;
        }
        int seen = 0;
        for (int n = 1; n <= state.bound; n++) {
            if (fullNumber(n) && seen++ == i) {
                return n;
            }
        }
        return -2;
    }

    int fullSum(int f, int x) {
        if (!has(f) || !reach(x)) {
            return -1;
        }
        long total = 0;
        for (int n = 1; n <= x; n++) {
            total += fullNumber(n) ? row(f, x)[n] : 0;
        }
        return rest(total);
    }

    int smooth(int f, int x, int y, boolean rough) {
        if (!has(f) || !reach(x) || !reach(y)) {
            return -1;
        }
        long total = 0;
        for (int n = 1; n <= x; n++) {
            boolean in = true;
            for (int p = 2; p <= n; p++) {
                if (n % p == 0 && prime(p) && (rough ? p <= y : p > y)) {
                    in = false;
                }
            }
            total += in ? row(f, x)[n] : 0;
        }
        return rest(total);
    }

    int first(int f, int r) {
        if (!has(f) || r < 0 || r >= state.modulus) {
            return -1;
        }
        long total = 0;
        for (int n = 1; n <= state.bound; n++) {
            total += row(f, state.bound)[n];
            if (total % state.modulus == r) {
                return n;
            }
        }
        return -2;
    }

    int parts(int f, int g) {
        if (!has(f) || !has(g)) {
            return -1;
        }
        for (int n = 1; n <= state.bound; n++) {
            if (row(f, state.bound)[n] != row(g, state.bound)[n]) {
                return n;
            }
        }
        return -2;
    }

    int best(int f, int x, boolean sums) {
        if (!has(f) || !place(x)) {
            return -1;
        }
        int best = 0;
        long most = -1;
        long total = 0;
        for (int n = 1; n <= x; n++) {
            total = (total + row(f, x)[n]) % state.modulus;
            long here = sums ? total : row(f, x)[n];
            if (here > most) {
                most = here;
                best = n;
            }
        }
        return best;
    }

    int howMany(int f, int x, int r) {
        if (!has(f) || !reach(x) || r < 0 || r >= state.modulus) {
            return -1;
        }
        return (int) Arrays.stream(row(f, x), 1, x + 1).filter(v -> v == r).count();
    }

    int blocks(int f, int x) {
        if (!has(f) || !place(x)) {
            return -1;
        }
        long total = 0;
        for (int d = 1; d <= x; d++) {
            total += Arrays.stream(row(f, x), 1, x / d + 1).sum() % state.modulus;
        }
        return rest(total);
    }

    int isWhole(int f) {
        if (!has(f)) {
            return -1;
        }
        long[] row = row(f, 1600);
        for (int m = 1; m <= 40; m++) {
            for (int n = 1; n <= 40; n++) {
                if (row[m * n] != row[m] * row[n] % state.modulus) {
                    return 0;
                }
            }
        }
        return 1;
    }

    int chance(int seed, int n, int f) {
        if (seed < -1 || n < 1 || n > 100 || !has(f)) {
            return -1;
        }
        BigInteger last = BigInteger.valueOf(seed == -1 ? state.seed : seed);
        long total = 0;
        for (int i = 0; i < n; i++) {
            long[] drawn = new long[2];
            for (int j = 0; j < 2; j++) {
                last = last.multiply(BigInteger.valueOf(1103515245)).add(BigInteger.valueOf(12345))
                    .mod(BigInteger.TWO.pow(31));
                drawn[j] = last.longValue() / 65536 % 32768;
            }
            int place = (int) ((drawn[0] * 32768 + drawn[1]) % state.bound) + 1;
            total += row(f, state.bound)[place];
        }
        return rest(total);
    }

    int undo() {
        if (past.isEmpty()) {
            return -1;
        }
        state = past.removeLast();
        cache.clear();
        return past.size();
    }

    int keep() {
        image = state.copy();
        return state.bound;
    }

    int back() {
        if (image == null) {
            return -1;
        }
        state = image.copy();
        past.clear();
        cache.clear();
        return state.bound;
    }

    int count(int what) {
        switch (what) {
            case 0:
                return state.functions.size();
            case 1:
                return (int) state.functions.stream().filter(f -> f.kind == 1).count();
            case 2:
                return state.bound;
            case 3:
                return state.modulus;
            case 4:
                return past.size();
            case 5:
                return tape.length();
            case 6:
                for (int n = state.bound; n > 1; n--) {
                    if (prime(n)) {
                        return n;
                    }
                }
                return -2;
            default:
                return -1;
        }
    }
}
