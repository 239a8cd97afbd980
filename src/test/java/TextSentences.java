/** Promises 1 to 10: the TAPE and the TEXT, what FUNCTIONS are, and what calls change. */
final class TextSentences {
    private static final int BLANK = 0x20202020;
    private static final int M = 1000003;

    private TextSentences() {
    }

    static void run() {
        newObject();
        feed();
        text();
        textWithFault();
        textRefused();
        fault();
        named();
        function();
        told();
        bound();
        modulus();
        set();
    }

    private static int feedBlanks(QuotientSums q) {
        return q.feed(BLANK, BLANK, BLANK, BLANK, BLANK);
    }

    private static void newObject() {
        Doc.open("Promise 1:");
        Doc.says("All as it is without LINES;");
        QuotientSums read = new QuotientSums();
        Doc.due("a text without lines", read.text(0), 0);
        Twins.sameShown("a text without lines", read, new QuotientSums());
        QuotientSums q = new QuotientSums();
        int[] counts = {6, 0, 1000, M, 0, 0, 997};
        for (int what = 0; what < counts.length; what++) {
            Doc.due("count(" + what + ")", q.count(what), counts[what]);
        }
        Doc.due("seed", q.chance(-1, 9, 1), q.chance(0, 9, 1));
        Doc.due("fault", q.fault(0), 0);
        Doc.due("place", q.fault(1), -1);
        Doc.due("nothing to undo", q.undo(), -1);
        Doc.due("no image", q.back(), -1);
        Doc.due("another object's bound", new QuotientSums().bound(3), 1000);
        Doc.due("stays its own", q.count(2), 1000);
        Doc.says("an empty TAPE.");
        Doc.due("bytes", q.count(5), 0);
        Doc.due("one byte", q.text(1), -2);
        Doc.due("no byte", q.text(0), 0);
    }

    private static void feed() {
        Doc.open("Promise 2:");
        Doc.says("Twenty bytes come behind the TAPE, four of each number, the highest first: how many it has;");
        QuotientSums q = new QuotientSums();
        // "own " "abcd" "ef;o" "wn g" ";at "
        Doc.due("twenty", q.feed(0x6f776e20, 0x61626364, 0x65663b6f, 0x776e2067, 0x3b617420), 20);
        // " g 1" " -98" " 76;" "own " "h ; "
        Doc.due("twenty more", q.feed(0x20672031, 0x202d3938, 0x2037363b, 0x6f776e20, 0x68203b20), 40);
        Doc.due("lines", q.text(40), 4);
        Doc.due("abcdef", q.named(Check.letters("abcdef")), 6);
        Doc.due("g", q.named(Check.letters("g")), 7);
        Doc.due("-98", q.told(7, 1, false), -98);
        Doc.due("76", q.told(7, 1, true), 76);
        Doc.due("behind a text", feedBlanks(q), 20);
        Doc.due("each byte counts", q.feed(0, 0, 0, 0, 0), 40);
        Doc.due("bytes above 127", q.feed(-1, -1, -1, -1, -1), 60);
        Doc.due("the first that is no blank", q.text(60), -1);
        Doc.due("its place", q.fault(1), 20);
        Doc.says("NONE, and none come, if it would have more than 700.");
        for (int i = 1; i <= 35; i++) {
            Doc.due("up to 700", feedBlanks(q), 20L * i);
            Doc.due("bytes", q.count(5), 20L * i);
        }
        Doc.due("beyond 700", q.feed(0x6f776e20, 0x663b2020, BLANK, BLANK, BLANK), -1);
        Doc.due("beyond 700 again", feedBlanks(q), -1);
        Doc.due("none came", q.count(5), 700);
        Doc.due("701", q.text(701), -2);
        Doc.due("700 blanks", q.text(700), 0);
        Doc.due("then there is room", feedBlanks(q), 20);
    }

    private static void text() {
        Doc.open("Promise 3:");
        Doc.says("The TAPE's first n bytes (it is empty then) are the TEXT (no IMAGE, nothing to undo): how many LINES;");
        firstBytes(0, 0, 1000, M);
        firstBytes(8, 1, 5, M);
        firstBytes(9, 1, 5, M);
        firstBytes(19, 2, 5, 6);
        firstBytes(20, 2, 5, 6);
        QuotientSums q = Twins.makeBusy();
        Doc.due("a text of no lines", q.text(0), 0);
        Twins.sameShown("a text of no lines", q, new QuotientSums());
        manyLines();
        textsAhead();
    }

    private static void firstBytes(int n, int lines, int bound, int modulus) {
        QuotientSums q = Twins.makeBusy();
        q.text(20);
        Check.feed(q, "bound 5; modulus 6; ");
        q.keep();
        q.bound(7);
        Doc.due("the first " + n, q.text(n), lines);
        Doc.due("the tape behind " + n, q.count(5), 0);
        Doc.due("bound behind " + n, q.count(2), bound);
        Doc.due("modulus behind " + n, q.count(3), modulus);
        Doc.due("nothing to undo behind " + n, q.count(4), 0);
        Doc.due("undo behind " + n, q.undo(), -1);
        Doc.due("no image behind " + n, q.back(), -1);
    }

    private static void manyLines() {
        QuotientSums q = new QuotientSums();
        StringBuilder text = new StringBuilder("own f;");
        while (text.length() + 11 <= 700) {
            text.append("at f 1 1 1;");
        }
        Check.feed(q, text.toString());
        Doc.due("many lines", q.text(text.length()), 1 + (text.length() - 6) / 11);
        QuotientSums full = new QuotientSums();
        String all = " ".repeat(692) + "bound 9;";
        Check.feed(full, all);
        Doc.due("700 bytes", full.text(700), 1);
        Doc.due("to the last byte", full.count(2), 9);
        Check.feed(full, " ".repeat(699) + "!");
        Doc.due("a fault at the last byte", full.text(700), -1);
        Doc.due("its place", full.fault(1), 699);
        Check.feed(full, "!" + " ".repeat(699));
        Doc.due("a fault at the first byte", full.text(700), -1);
        Doc.due("its place", full.fault(1), 0);
    }

    /** Each text is read as if there had been none ahead, however many there were, with a FAULT or without. */
    private static void textsAhead() {
        String rich = "seed 9;bound 8;modulus 7;twist f phi 3;times g f f;own h;at h 1 5 5;over i f;point j f id;own k;at k 6 7 7;";
        String[] later = {"", "own a;own b;own c;own d;own e;own f;", "over f one;twist g tau 4;", "times f one one;own g;point h g g;"};
        for (String fault : new String[] {"", "!"}) {
            for (String text : later) {
                for (int between = 0; between < 3; between++) {
                    QuotientSums q = new QuotientSums();
                    Doc.due("a rich text" + fault, Check.tell(q, rich + fault), fault.isEmpty() ? 11 : -1);
                    for (int i = 0; i < between; i++) {
                        Doc.due("a text of no lines", q.text(0), 0);
                    }
                    Check.tell(q, text);
                    Twins.sameShown("'" + text + "' behind others", q, Check.told(text));
                }
            }
        }
    }

    private static void textWithFault() {
        Doc.says("NONE with a FAULT, all else stays;");
        for (String text : new String[] {"bound 7;own x;bound 8;", "bound 7;modulus 9;seed 3;own x;at x 1 1 1;!", "own x",
            "over x f;", "at f 1 0 0;", "own a;own b;own c;own d;own e;own f;own g;"}) {
            QuotientSums one = Twins.makeChanged();
            QuotientSums other = Twins.makeChanged();
            // Sums asked for ahead must not be lost or mixed up either.
            Doc.due("a sum ahead", one.sum(6, 40), other.sum(6, 40));
            Doc.due("a sum ahead", one.sum(8, 40), other.sum(8, 40));
            Doc.due("'" + text + "'", Check.tell(one, text), -1);
            Doc.due("the tape behind '" + text + "'", one.count(5), 0);
            // The other one gets the same FAULT and place by a text of blanks and one sign alone.
            sameFault(other, one.fault(0), one.fault(1));
            Twins.sameShown("'" + text + "'", one, other);
        }
    }

    private static void sameFault(QuotientSums q, int fault, int place) {
        String[] shortest = {"", "!", "bound 0", "own one", "at f"};
        int[] inside = {0, 0, 6, 4, 3};
        String text = " ".repeat(place - inside[fault]) + shortest[fault];
        Doc.due("'" + text + "'", Check.tell(q, text), -1);
        Doc.due("its fault", q.fault(0), fault);
        Doc.due("its place", q.fault(1), place);
    }

    private static void textRefused() {
        Doc.says("-2, and the TAPE stays: there are not so many, n is below 0.");
        Twins busy = Twins.busy();
        for (int n : new int[] {-1, -2, Integer.MIN_VALUE, 21, 22, 700, 701, Integer.MAX_VALUE}) {
            busy.leaves("text(" + n + ")", -2, q -> q.text(n));
        }
        busy.answers("text(20)", 2, q -> q.text(20));
        busy.answers("text(19)", 2, q -> q.text(19));
        QuotientSums q = new QuotientSums();
        Check.feed(q, "own f;own g;own h;!!");
        Doc.due("not so many, of a tape with a fault", q.text(21), -2);
        Doc.due("the tape stays", q.count(5), 20);
        Doc.due("below 0", q.text(-1), -2);
        Doc.due("the tape stays", q.count(5), 20);
        Doc.due("its bytes stay", q.text(18), 3);
        Doc.due("an empty tape", q.text(1), -2);
        Doc.due("an empty tape", q.text(0), 0);
    }

    private static void fault() {
        Doc.open("Promise 4:");
        Doc.says("Of the latest text() that was not -2, what 0: its FAULT (0), 1: its place (NONE without).");
        QuotientSums q = new QuotientSums();
        Doc.due("none yet", q.fault(0), 0);
        Doc.due("none yet", q.fault(1), -1);
        String[] texts = {"!", "bound 0;", "own one;", "over h zz;", ""};
        int[][] due = {{1, 0}, {2, 6}, {3, 4}, {4, 7}, {0, -1}};
        for (int i = 0; i < texts.length; i++) {
            Check.tell(q, texts[i]);
            for (int n : new int[] {0, 1, -1}) {
                Doc.due("'" + texts[i] + "', fault", q.fault(0), due[i][0]);
                Doc.due("'" + texts[i] + "', place", q.fault(1), due[i][1]);
                Doc.due("a text that is -2", q.text(n == 0 ? 1 : -1), -2);
            }
        }
        Check.tell(q, "bound 0;");
        q.bound(5);
        q.undo();
        q.keep();
        q.back();
        feedBlanks(q);
        Doc.due("other calls leave it", q.fault(0), 2);
        Doc.due("other calls leave its place", q.fault(1), 6);
        Doc.says("NONE for another what.");
        Twins.busy().ends("fault(what)", 0, 1, -1, (o, what) -> o.fault(what), what -> what == 0 ? 2 : 12);
    }

    private static void named() {
        Doc.open("Promise 5:");
        Doc.says("A FUNCTION by its letters, 5 bits each (a is 1; the first one highest of six, 0 behind the last one):"
            + " its number;");
        QuotientSums q = Check.told("own a;own z;own azazaz;own zzzzzz;own aa;own az;");
        Doc.due("one", q.named((15 << 25) + (14 << 20) + (5 << 15)), 0);
        Doc.due("sigma", q.named((19 << 25) + (9 << 20) + (7 << 15) + (13 << 10) + (1 << 5)), 5);
        Doc.due("a", q.named(1 << 25), 6);
        Doc.due("z", q.named(26 << 25), 7);
        Doc.due("azazaz", q.named((1 << 25) + (26 << 20) + (1 << 15) + (26 << 10) + (1 << 5) + 26), 8);
        Doc.due("zzzzzz", q.named(26 * ((1 << 25) + (1 << 20) + (1 << 15) + (1 << 10) + (1 << 5) + 1)), 9);
        Doc.due("aa", q.named((1 << 25) + (1 << 20)), 10);
        Doc.due("az", q.named((1 << 25) + (26 << 20)), 11);
        Doc.says("NONE: there is none such.");
        Twins twins = Twins.told("own a;own z;own azazaz;own zzzzzz;own aa;own az;");
        int[] none = {0, 1, 26, 27 << 25, 25 << 25, 2 << 25, (1 << 25) + 1, (1 << 25) - 1, 1 << 20, (1 << 25) + (1 << 15),
            1 << 30, 1 << 31, (1 << 25) + (1 << 30), (1 << 25) + (1 << 31), (1 << 25) + (3 << 30), -1, Integer.MAX_VALUE};
        for (int letters : none) {
            twins.leaves("named(" + letters + ")", -1, o -> o.named(letters));
        }
        Check.tell(q, "own b;");
        Doc.due("a is no more", q.named(1 << 25), -1);
        Doc.due("b is there", q.named(2 << 25), 6);
    }

    private static void function() {
        Doc.open("Promise 6:");
        Doc.says("Of a FUNCTION, what 0 what it is: 0 known, 1 own, 2 times, 3 over, 4 point, 5 twist, 1 the first FUNCTION it"
            + " is made of (-2: none), 2 the second one (-2), 3 DEGREE, 4 COLOURS (0 none, 1 that of 3, 2 of 4, 3 both).");
        int[][] due = {{0, -2, -2, 0, 0}, {0, -2, -2, 1, 0}, {0, -2, -2, 0, 0}, {0, -2, -2, 1, 0}, {0, -2, -2, 0, 0},
            {0, -2, -2, 1, 0}, {1, -2, -2, 1, 0}, {5, 6, -2, 1, 2}, {5, 0, -2, 0, 1}, {2, 8, 7, 1, 3}, {4, 5, 9, 2, 3},
            {3, 10, -2, 2, 3}};
        Twins twins = Twins.told("own f;twist g f 4;twist h one 3;times i h g;point j sigma i;over k j;");
        for (int f = 0; f < due.length; f++) {
            int function = f;
            for (int what = 0; what < 5; what++) {
                int asked = what;
                twins.answers("function(" + f + ", " + what + ")", due[f][what], q -> Twins.function(q, function, asked));
            }
        }
        Doc.says("IndexOutOfBoundsException: no such FUNCTION.");
        twins.ends("function(f, 0)", 0, 11, Twins.THROWS_INDEX, (q, f) -> Twins.function(q, f, 0), f -> due[f][0]);
        Twins.told("").ends("function(f, 3)", 0, 5, Twins.THROWS_INDEX, (q, f) -> Twins.function(q, f, 3), f -> f % 2);
        Twins.told("own f;").ends("function(f, 1)", 0, 6, Twins.THROWS_INDEX, (q, f) -> Twins.function(q, f, 1), f -> -2);
        Doc.says("NoSuchElementException: no such what.");
        for (int f : new int[] {0, 9, 11}) {
            twins.ends("function(" + f + ", what)", 0, 4, Twins.THROWS_ELEMENT, (q, what) -> Twins.function(q, f, what),
                what -> due[f][what]);
        }
    }

    private static void told() {
        Doc.open("Promise 7:");
        Doc.says("Of an own FUNCTION what at tells of a power 1 .. 6, the first M, (second) the other one;");
        Twins twins = Twins.told("own f;at f 1 11 -12;at f 2 21 -22;at f 5 51 -52;at f 6 61 -62;over g f;own h;at h 6 1 2;");
        Doc.says("-1000: no such ones, it isn't own.");
        twins.ends("told(6, power, false)", 1, 6, -1000, (q, power) -> q.told(6, power, false), power -> 10 * power + 1);
        twins.ends("told(6, power, true)", 1, 6, -1000, (q, power) -> q.told(6, power, true), power -> -10 * power - 2);
        twins.answers("a power that at doesn't tell", 0, q -> q.told(6, 3, false));
        twins.answers("a power that at doesn't tell", 0, q -> q.told(6, 4, true));
        twins.answers("of another own one", 2, q -> q.told(8, 6, true));
        for (int f : new int[] {0, 5, 7, 9, -1, 12, Integer.MIN_VALUE, Integer.MAX_VALUE}) {
            for (int power : new int[] {0, 1, 6, 7}) {
                twins.leaves("told(" + f + ", " + power + ", false)", -1000, q -> q.told(f, power, false));
                twins.leaves("told(" + f + ", " + power + ", true)", -1000, q -> q.told(f, power, true));
            }
        }
        Twins made = Twins.told("twist t one 3;times u t t;point v one t;");
        for (int f = 6; f < 9; f++) {
            int function = f;
            made.leaves("told(" + f + ", 1, false)", -1000, q -> q.told(function, 1, false));
        }
    }

    private static void bound() {
        Doc.open("Promise 8:");
        Doc.says("BOUND becomes 1 .. 200000: what it was;");
        for (int n : new int[] {1, 2, 50, 199999, 200000}) {
            QuotientSums q = Twins.makeBusy();
            Doc.due("bound(" + n + ")", q.bound(n), 50);
            Doc.due("it is " + n, q.count(2), n);
            Doc.due("up to " + n, q.value(0, n), 1);
            Doc.due("no further than " + n, q.value(0, n + 1), -1);
            Doc.due("one more to undo", q.count(4), 4);
            Doc.due("again", q.bound(n), n);
            Doc.due("one more to undo", q.count(4), 5);
            Doc.due("the modulus stays", q.count(3), 97);
            q.undo();
            q.undo();
            Twins.sameShown("bound(" + n + ") undone", q, Twins.makeBusy());
        }
        Doc.says("NONE: no such one.");
        Twins.busy().ends("bound(n)", 1, 200000, -1, (q, n) -> q.bound(n), n -> 50);
    }

    private static void modulus() {
        Doc.open("Promise 9:");
        Doc.says("MODULUS becomes 2 .. 1000003: what it was;");
        for (int m : new int[] {2, 3, 97, 1000002, 1000003}) {
            QuotientSums q = Twins.makeBusy();
            Doc.due("ahead", q.sum(2, 50), 94);
            Doc.due("modulus(" + m + ")", q.modulus(m), 97);
            Doc.due("it is " + m, q.count(3), m);
            Doc.due("-1 by " + m, q.value(2, 2), m - 1);
            Doc.due("-3 by " + m, q.sum(2, 50), Math.floorMod(-3, m));
            Doc.due("rests up to " + (m - 1), q.howMany(0, 1, m - 1), m == 2 ? 1 : 0);
            Doc.due("no rest " + m, q.howMany(0, 1, m), -1);
            Doc.due("one more to undo", q.count(4), 4);
            Doc.due("again", q.modulus(m), m);
            Doc.due("the bound stays", q.count(2), 50);
            q.undo();
            q.undo();
            Twins.sameShown("modulus(" + m + ") undone", q, Twins.makeBusy());
        }
        Doc.says("NONE: no such one.");
        Twins.busy().ends("modulus(m)", 2, 1000003, -1, (q, m) -> q.modulus(m), m -> 97);
    }

    private static void set() {
        Doc.open("Promise 10:");
        Doc.says("What at tells of an own FUNCTION, power 1 .. 6, a, b -999 .. 999: true;");
        for (int power = 1; power <= 6; power++) {
            QuotientSums q = Twins.makeBusy();
            q.bound(1000);
            q.modulus(M);
            q.sum(8, 1000);
            Doc.due("set of " + power, q.set(7, power, -7, 8), true);
            Doc.due("first of " + power, q.told(7, power, false), -7);
            Doc.due("second of " + power, q.told(7, power, true), 8);
            Doc.due("at 2 to the " + power, q.value(7, 1 << power), 16 - 7);
            Doc.due("of the other own one", q.told(6, 1, false), 3);
            Doc.due("of another power", q.told(7, power == 6 ? 1 : 6, false), power == 6 ? 0 : -5);
            Doc.due("one more to undo", q.count(4), 6);
        }
        Twins busy = Twins.busy();
        Doc.says("false: no such ones, it isn't own.");
        busy.ends("set(f, 1, 0, 0)", 6, 7, 0, (q, f) -> q.set(f, 1, 0, 0) ? 1 : 0, f -> 1);
        busy.ends("set(6, power, 0, 0)", 1, 6, 0, (q, power) -> q.set(6, power, 0, 0) ? 1 : 0, power -> 1);
        busy.ends("set(6, 1, a, 0)", -999, 999, 0, (q, a) -> q.set(6, 1, a, 0) ? 1 : 0, a -> 1);
        busy.ends("set(6, 1, 0, b)", -999, 999, 0, (q, b) -> q.set(6, 1, 0, b) ? 1 : 0, b -> 1);
        busy.ends("what a becomes", -999, 999, 3, (q, a) -> afterSet(q, a, 0, false), a -> a);
        busy.ends("what b becomes", -999, 999, 4, (q, b) -> afterSet(q, 0, b, true), b -> b);
        for (int f = 0; f < 6; f++) {
            int known = f;
            busy.leaves("of a known one", 0, q -> q.set(known, 1, 0, 0) ? 1 : 0);
        }
    }

    private static long afterSet(QuotientSums q, int a, int b, boolean second) {
        q.set(6, 1, a, b);
        return q.told(6, 1, second);
    }
}
