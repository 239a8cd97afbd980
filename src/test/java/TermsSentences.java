/** 'Terms' as far as they tell what a TEXT is: its TOKENS and LINES, their limits and FAULTS. */
final class TermsSentences {
    private static final String[] WORDS = {"bound", "modulus", "seed", "own", "at", "times", "over", "point", "twist"};
    private static final String SIX = "own a;own b;own c;own d;own e;own f;";
    /** One of each DEGREE 0 .. 3, and one of each COLOURS 0 .. 3. */
    private static final String[] BY_DEGREE = {"one", "id", "two", "three"};
    private static final String DEGREES = "point two id phi;point three two sigma;";
    private static final String[] BY_COLOURS = {"one", "red", "blue", "both"};
    private static final String COLOURS = "twist red one 3;twist blue one 4;times both red blue;";

    private TermsSentences() {
    }

    static void run() {
        Doc.open("Terms");
        texts();
        lines();
        words();
        names();
        digits();
        signed();
        blanks();
        bound();
        modulus();
        seed();
        knownNames();
        furtherOnes();
        at();
        degrees();
        colours();
        firstAlong();
        leastOfOnePlace();
        noTokens();
        cantStand();
        tooMuch();
        toldAlready();
        notThere();
    }

    // ---- what a text must answer ----

    private static QuotientSums reads(String text, int lines) {
        QuotientSums q = new QuotientSums();
        Doc.due("'" + text + "'", Check.tell(q, text), lines);
        Doc.due("'" + text + "', fault(0)", q.fault(0), 0);
        Doc.due("'" + text + "', fault(1)", q.fault(1), -1);
        return q;
    }

    private static void fault(String text, int fault, int place) {
        QuotientSums q = new QuotientSums();
        q.bound(77);
        Check.feed(q, text);
        readsWrong(q, text, text.length(), fault, place);
        Doc.due("'" + text + "', bound", q.count(2), 77);
        Doc.due("'" + text + "', functions", q.count(0), 6);
    }

    private static void readsWrong(QuotientSums q, String text, int n, int fault, int place) {
        String call = "the first " + n + " of '" + text + "'";
        Doc.due(call, q.text(n), -1);
        Doc.due(call + ", fault(0)", q.fault(0), fault);
        Doc.due(call + ", fault(1)", q.fault(1), place);
    }

    /** The fault stands where '^' does, which is no part of the text. */
    private static void faultAt(String marked, int fault) {
        int place = marked.indexOf('^');
        fault(marked.substring(0, place) + marked.substring(place + 1), fault, place);
    }

    // ---- TOKENS and LINES ----

    private static void texts() {
        Doc.says("A TEXT: { LINE ';' }.");
        reads("", 0);
        reads(" ", 0);
        reads("own f;", 1);
        reads("own f;own g;", 2);
        faultAt("own f^", 1);
        faultAt("own f;own g^", 1);
        faultAt("^;", 1);
        faultAt("^;own f;", 1);
        faultAt("own f;^;", 1);
        faultAt("own f;^;own g;", 1);
        faultAt("own f^,own g;", 1);
    }

    private static void lines() {
        Doc.says("LINE: bound N | modulus N | seed N | own W | at W N M M | times W W W | over W W | point W W W |"
            + " twist W W N.");
        line("", "bound 5", "N");
        line("", "modulus 5", "N");
        line("", "seed 5", "N");
        line("", "own f", "W");
        line("own f;", "at f 1 -2 3", "WNMM");
        line("", "times f one id", "WWW");
        line("", "over f one", "WW");
        line("", "point f one id", "WWW");
        line("", "twist f one 3", "WWN");
    }

    /** The line itself, one piece less, one more, and each piece in turn of a sort that can't stand there. */
    private static void line(String ahead, String line, String form) {
        int before = ahead.isEmpty() ? 0 : 1;
        reads(ahead + line + ";", before + 1);
        faultAt(ahead + line.substring(0, line.lastIndexOf(' ')) + "^;", 1);
        for (String more : new String[] {"5", "-5", "one", "own", "!"}) {
            faultAt(ahead + line + " ^" + more + ";", 1);
        }
        String[] pieces = line.split(" ");
        StringBuilder whole = new StringBuilder(ahead);
        for (int i = 0; i < pieces.length; i++) {
            for (String wrong : wrongPieces(i == 0 ? 'L' : form.charAt(i - 1))) {
                faultAt(whole + "^" + wrong + line.substring(pieceEnd(pieces, i)) + ";", 1);
            }
            whole.append(pieces[i]).append(' ');
        }
    }

    private static int pieceEnd(String[] pieces, int last) {
        int end = -1;
        for (int i = 0; i <= last; i++) {
            end += 1 + pieces[i].length();
        }
        return end;
    }

    private static String[] wrongPieces(char sort) {
        switch (sort) {
            case 'L':
                return new String[] {"5", "-5", "-", "f", "one", "owns", "Own", "abcdefg", "?"};
            case 'W':
                return new String[] {"5", "-5", "-", "at", "modulus", "F", "abcdefg", "?", ";"};
            case 'N':
                return new String[] {"-5", "-", "one", "own", "abcdefg", "?", ";"};
            default:
                return new String[] {"-", "--5", "one", "own", "abcdefg", "?", ";"};
        }
    }

    private static void words() {
        Doc.says("Words: small letters in a row;");
        reads("own a;own z;own az;own za;", 4);
        faultAt("own ^`;", 1);
        faultAt("own ^{;", 1);
        faultAt("own ^A;", 1);
        faultAt("own ^Z;", 1);
        faultAt("own f^`;", 1);
        faultAt("own f^{;", 1);
        faultAt("own f^G;", 1);
        faultAt("own f^_g;", 1);
        faultAt("own f ^g;", 1);
        faultAt("^ownf;", 1);
        faultAt("^ow n f;", 1);
        QuotientSums q = reads("own ab;own b;own a;", 3);
        Doc.due("ab", q.named(Check.letters("ab")), 6);
        Doc.due("b", q.named(Check.letters("b")), 7);
    }

    private static void names() {
        Doc.says("W: one of 1 .. 6 letters, none of those of the language;");
        reads("own a;own ab;own abcde;own abcdef;", 4);
        faultAt("own ^abcdefg;", 1);
        faultAt("own ^abcdefgh;", 1);
        reads("over abcdef one;over zzzzzz abcdef;", 2);
        faultAt("over abcdef one;over zzzzzz ^abcdefg;", 1);
        for (String word : WORDS) {
            faultAt("own ^" + word + ";", 1);
            faultAt("at ^" + word + " 1 1 1;", 1);
            faultAt("times ^" + word + " one one;", 1);
            faultAt("times f ^" + word + " one;", 1);
            faultAt("times f one ^" + word + ";", 1);
            faultAt("over ^" + word + " one;", 1);
            faultAt("over f ^" + word + ";", 1);
            faultAt("point f one ^" + word + ";", 1);
            faultAt("twist f ^" + word + " 3;", 1);
            reads("own " + word.substring(1) + ";", 1);
            reads("own x" + word.substring(0, Math.min(5, word.length())) + ";", 1);
        }
        reads("own boun;own bounds;own modulu;own seeds;own owns;own att;", 6);
    }

    private static void digits() {
        Doc.says("N: digits;");
        Doc.due("12345", reads("bound 12345;", 1).count(2), 12345);
        Doc.due("67890", reads("bound 67890;", 1).count(2), 67890);
        Doc.due("0000000000000000000000000007", reads("bound 0000000000000000000000000007;", 1).count(2), 7);
        faultAt("bound ^/;", 1);
        faultAt("bound ^:;", 1);
        faultAt("bound 5^/;", 1);
        faultAt("bound 5^:;", 1);
        faultAt("bound 5^.0;", 1);
        faultAt("bound 5^x;", 1);
        faultAt("bound 1 ^0;", 1);
        faultAt("bound ^+5;", 1);
        faultAt("bound ^-5;", 1);
    }

    private static void signed() {
        Doc.says("M: digits, '-' right ahead of them or none.");
        toldAs("-5 7", -5, 7);
        toldAs("5 -7", 5, -7);
        toldAs("-5-7", -5, -7);
        toldAs("5-7", 5, -7);
        toldAs("-0 0", 0, 0);
        toldAs("-007 007", -7, 7);
        faultAt("own f;at f 1 ^- 5 5;", 1);
        faultAt("own f;at f 1 ^-\n5 5;", 1);
        faultAt("own f;at f 1 ^--5 5;", 1);
        faultAt("own f;at f 1 ^+5 5;", 1);
        faultAt("own f;at f 1 5^- 5;", 1);
        faultAt("own f;at f 1 5 5^-;", 1);
        faultAt("own f;at f 1 ^-x 5;", 1);
    }

    private static void toldAs(String both, int first, int second) {
        QuotientSums q = reads("own f;at f 1 " + both + ";", 2);
        Doc.due("'" + both + "', the first", q.told(6, 1, false), first);
        Doc.due("'" + both + "', the second", q.told(6, 1, true), second);
    }

    private static void blanks() {
        Doc.says("Blanks 10, 32.");
        reads("\n own\n f \n;\n\n  at  f\n1 -9\n9 ; \n", 2);
        for (int sign = 0; sign < 256; sign++) {
            String text = "own" + (char) sign + "f;";
            if (sign == 10 || sign == 32) {
                reads(text, 1);
            } else {
                boolean inWord = sign >= 'a' && sign <= 'z';
                fault(text, 1, inWord ? 0 : 3);
            }
        }
    }

    // ---- limits ----

    private static void bound() {
        Doc.says("bound: 1 .. 200000 (1000).");
        setting("bound", 2, 1, 200000, 1000);
    }

    private static void modulus() {
        Doc.says("modulus: 2 .. 1000003 (1000003).");
        setting("modulus", 3, 2, 1000003, 1000003);
    }

    private static void setting(String word, int what, int least, int most, int without) {
        Doc.due("without", reads("own f;", 1).count(what), without);
        for (int n : new int[] {least, least + 1, most - 1, most}) {
            Doc.due(word + " " + n, reads(word + " " + n + ";", 1).count(what), n);
        }
        Doc.due("0 ahead of " + most, reads(word + " 000" + most + ";", 1).count(what), most);
        beyond(word, least, most);
    }

    private static void beyond(String word, int least, int most) {
        if (least > 0) {
            faultAt(word + " ^" + (least - 1) + ";", 2);
            faultAt(word + " ^0;", 2);
        }
        faultAt(word + " ^" + (most + 1) + ";", 2);
        faultAt(word + " ^" + most + "0;", 2);
        for (String great : new String[] {"2147483647", "2147483648", "4294967297", "9223372036854775809",
            "18446744073709551617", "100000000000000000000000000001"}) {
            faultAt(word + " ^" + great + ";", 2);
        }
    }

    /** The seed shows in what is drawn with -1. */
    private static void seed() {
        Doc.says("seed: 0 .. 99999 (0).");
        QuotientSums plain = new QuotientSums();
        Doc.due("without", reads("own f;", 1).chance(-1, 5, 1), plain.chance(0, 5, 1));
        for (int n : new int[] {0, 1, 99998, 99999}) {
            Doc.due("seed " + n, reads("seed " + n + ";", 1).chance(-1, 5, 1), plain.chance(n, 5, 1));
        }
        Doc.due("seeds tell apart", plain.chance(99998, 5, 1) != plain.chance(99999, 5, 1), true);
        beyond("seed", 0, 99999);
    }

    private static void knownNames() {
        Doc.says("FUNCTIONS have names: one, id, mu, phi, tau, sigma are there (0 .. 5);");
        String[] known = {"one", "id", "mu", "phi", "tau", "sigma"};
        QuotientSums q = reads("", 0);
        Doc.due("how many", q.count(0), 6);
        for (int f = 0; f < 6; f++) {
            Doc.due(known[f], q.named(Check.letters(known[f])), f);
            faultAt("own ^" + known[f] + ";", 3);
            Doc.due("over " + known[f], Twins.function(reads("over h " + known[f] + ";", 1), 6, 1), f);
        }
    }

    private static void furtherOnes() {
        Doc.says("own, times, over, point, twist tell further ones, at most 6 (6 .. 11, as they come), by the first W,"
            + " of FUNCTIONS by the others.");
        QuotientSums q = reads("own f;times g f id;over h g;point i h tau;twist j i 3;times k j j;", 6);
        Doc.due("six further ones", q.count(0), 12);
        int[][] due = {{1, -2, -2}, {2, 6, 1}, {3, 7, -2}, {4, 8, 4}, {5, 9, -2}, {2, 10, 10}};
        for (int i = 0; i < 6; i++) {
            Doc.due("name " + i, q.named(Check.letters(String.valueOf((char) ('f' + i)))), 6 + i);
            for (int what = 0; what < 3; what++) {
                Doc.due("function(" + (6 + i) + ", " + what + ")", Twins.function(q, 6 + i, what), due[i][what]);
            }
        }
        Doc.due("no seventh", Twins.function(q, 12, 0), Twins.THROWS_INDEX);
        String five = SIX.substring(6);
        for (String more : new String[] {"own z;", "times z one one;", "over z one;", "point z one one;",
            "twist z one 3;"}) {
            Doc.due("the sixth: " + more, reads(five + more, 6).count(0), 12);
            faultAt(SIX + "^" + more, 2);
        }
        reads(SIX + "at f 1 1 1;bound 5;modulus 5;seed 5;", 10);
    }

    private static void at() {
        Doc.says("at: of an own one a power 1 .. 6, -999 .. 999 each (of one power the last one told).");
        for (int power = 1; power <= 6; power++) {
            QuotientSums q = reads("own f;at f " + power + " -999 999;", 2);
            for (int other = 1; other <= 6; other++) {
                Doc.due("first of " + other, q.told(6, other, false), other == power ? -999 : 0);
                Doc.due("second of " + other, q.told(6, other, true), other == power ? 999 : 0);
            }
        }
        toldAs("-998 998", -998, 998);
        toldAs("999 -999", 999, -999);
        faultAt("own f;at f ^0 0 0;", 2);
        faultAt("own f;at f ^7 0 0;", 2);
        faultAt("own f;at f ^4294967297 0 0;", 2);
        for (String number : new String[] {"1000", "-1000", "4294967296", "-4294967296"}) {
            faultAt("own f;at f 1 ^" + number + " 0;", 2);
            faultAt("own f;at f 1 0 ^" + number + ";", 2);
        }
        QuotientSums q = reads("own f;own g;at f 2 1 2;at g 2 3 4;at f 2 5 6;at f 3 7 8;", 6);
        Doc.due("the last one told", q.told(6, 2, false), 5);
        Doc.due("the last one told", q.told(6, 2, true), 6);
        Doc.due("of another own one", q.told(7, 2, false), 3);
        Doc.due("of another power", q.told(6, 3, true), 8);
    }

    // ---- DEGREE and COLOURS ----

    private static void degrees() {
        Doc.says("DEGREE: of one, mu, tau 0, of id, phi, sigma, own ones 1; times: the greater of both; over: the same;"
            + " point: both together; twist: the same; 3 at most.");
        QuotientSums known = reads("own f;", 1);
        int[] due = {0, 1, 0, 1, 0, 1, 1};
        for (int f = 0; f < due.length; f++) {
            Doc.due("of " + f, Twins.function(known, f, 3), due[f]);
        }
        for (int a = 0; a < 4; a++) {
            String one = BY_DEGREE[a];
            Doc.due("over " + one, lastOf(DEGREES + "over z " + one + ";", 3), a);
            Doc.due("twist " + one, lastOf(DEGREES + "twist z " + one + " 4;", 3), a);
            for (int b = 0; b < 4; b++) {
                String both = one + " " + BY_DEGREE[b];
                Doc.due("times " + both, lastOf(DEGREES + "times z " + both + ";", 3), Math.max(a, b));
                if (a + b <= 3) {
                    Doc.due("point " + both, lastOf(DEGREES + "point z " + both + ";", 3), a + b);
                } else {
                    faultAt(DEGREES + "point z " + one + " ^" + BY_DEGREE[b] + ";", 2);
                }
            }
        }
    }

    private static void colours() {
        Doc.says("COLOURS: of known, own ones none; times: those of both; over: the same; point: those of both, only one"
            + " of which may have any; twist: its N, of one that has none; N 3 or 4.");
        QuotientSums known = reads("own f;", 1);
        for (int f = 0; f <= 6; f++) {
            Doc.due("of " + f, Twins.function(known, f, 4), 0);
        }
        for (int a = 0; a < 4; a++) {
            String one = BY_COLOURS[a];
            Doc.due("over " + one, lastOf(COLOURS + "over z " + one + ";", 4), a);
            for (int b = 0; b < 4; b++) {
                String both = one + " " + BY_COLOURS[b];
                Doc.due("times " + both, lastOf(COLOURS + "times z " + both + ";", 4), a | b);
                if (a == 0 || b == 0) {
                    Doc.due("point " + both, lastOf(COLOURS + "point z " + both + ";", 4), a | b);
                } else {
                    faultAt(COLOURS + "point z " + one + " ^" + BY_COLOURS[b] + ";", 2);
                }
            }
        }
        for (int n = 3; n <= 4; n++) {
            Doc.due("twist " + n, lastOf("twist z phi " + n + ";", 4), n - 2);
            Doc.due("twist 0" + n, lastOf("twist z phi 0" + n + ";", 4), n - 2);
            for (int a = 1; a < 4; a++) {
                faultAt(COLOURS + "twist z ^" + BY_COLOURS[a] + " " + n + ";", 2);
            }
        }
        for (String n : new String[] {"0", "1", "2", "5", "34", "4294967299"}) {
            faultAt("twist z one ^" + n + ";", 2);
        }
    }

    private static long lastOf(String text, int what) {
        QuotientSums q = Check.told(text);
        return Twins.function(q, q.count(0) - 1, what);
    }

    // ---- FAULTS ----

    private static void firstAlong() {
        Doc.says("FAULTS, the first along the text");
        String[] faulty = {"bound ^x;", "bound ^0;", "own ^one;", "over h ^zz;", "own ^modulus;"};
        int[] faults = {1, 2, 3, 4, 1};
        for (int i = 0; i < faulty.length; i++) {
            for (String behind : faulty) {
                faultAt("seed 5;" + faulty[i] + behind.replace("^", ""), faults[i]);
            }
        }
        faultAt("twist a one 3;twist b ^a 9;", 2);
        faultAt("twist a one 3;twist b ^a", 2);
        faultAt("twist a one 3;twist b ^a -;", 2);
        faultAt("point a id id;point b a ^a", 2);
        faultAt("over ^one zz;", 3);
        faultAt("over h ^zz", 4);
        faultAt("at ^f", 4);
        faultAt("own f;at f ^9 -;", 2);
        faultAt("own f;at f 1 ^1000 x;", 2);
        faultAt("bound 5;^bound -;", 3);
        faultAt("bound 5;^bound", 3);
        faultAt("bound ^0 5;", 2);
        faultAt("bound ^0", 2);
        faultAt(SIX + "^own own;", 2);
        faultAt(SIX + "^own one;", 2);
        faultAt(SIX + "^over", 2);
        faultAt(SIX + "^times zz zz zz;", 2);
    }

    private static void leastOfOnePlace() {
        Doc.says("(of one place the least), with its place:");
        // What can't stand there would also be beyond what is said, or not there.
        faultAt("bound ^-5;", 1);
        faultAt("twist t one ^-3;", 1);
        faultAt("own f;at f ^-1 0 0;", 1);
        faultAt("over h ^abcdefg;", 1);
        faultAt("over h ^own;", 1);
        faultAt("at ^abcdefg 1 0 0;", 1);
        faultAt("at ^bound 1 0 0;", 1);
        // Too much in two ways at one place.
        faultAt("point t id id;twist a t 3;point z a ^a;", 2);
    }

    private static void noTokens() {
        Doc.says("1 a TOKEN that is none (a word of more than 6 letters that isn't of the language, '-' without a digit"
            + " behind it, too)");
        reads("own abcdef;", 1);
        faultAt("own ^abcdefg;", 1);
        faultAt("^abcdefg", 1);
        reads("modulus 5;", 1);
        faultAt("^moduluss 5;", 1);
        faultAt("^modulut 5;", 1);
        faultAt("^bodulus 5;", 1);
        faultAt("^boundss 5;", 1);
        faultAt("^-", 1);
        faultAt("own f;at f 1 0 ^-", 1);
        faultAt("own f;at f 1 0 ^-;", 1);
        faultAt("own f;^-5;", 1);
        faultAt("own f;^\u0000", 1);
        faultAt("own f;^\u00ff", 1);
        faultAt("own f;^#", 1);
        // What is behind the TEXT on the TAPE is no part of it.
        cutShort("own f;at f 1 0 -5;", 16, 15);
        cutShort("own abcdefg;", 10, 10);
        cutShort("bound 200001;", 11, 11);
        cutShort("bound 5;", 7, 7);
    }

    private static void cutShort(String tape, int n, int place) {
        QuotientSums q = new QuotientSums();
        Check.feed(q, tape);
        readsWrong(q, tape, n, 1, place);
    }

    private static void cantStand() {
        Doc.says("or can't stand there (the length, if more must come; a '-' where N must be).");
        faultAt("own f;at f 1 ^;", 1);
        for (String part : new String[] {"own", "own f", "bound", "bound 5", "times f", "times f one", "times f one id",
            "over", "over f", "over f one", "point f one", "twist f", "twist f one", "twist f one 3"}) {
            faultAt(part + "^", 1);
            faultAt(part + " ^", 1);
            faultAt(part + " \n ^", 1);
            faultAt("seed 5;" + part + " ^", 1);
        }
        for (String part : new String[] {"at", "at f", "at f 1", "at f 1 2", "at f 1 2 3"}) {
            faultAt("own f;" + part + "^", 1);
            faultAt("own f;" + part + "\n^", 1);
        }
        for (String word : new String[] {"bound", "modulus", "seed"}) {
            faultAt(word + " ^-5;", 1);
            faultAt(word + "^-5;", 1);
            faultAt(word + " ^-0;", 1);
            faultAt(word + " ^-;", 1);
        }
        faultAt("own f;at f ^-1 0 0;", 1);
        faultAt("twist t one ^-3;", 1);
        for (String word : WORDS) {
            faultAt("own f ^" + word + ";", 1);
        }
    }

    private static void tooMuch() {
        Doc.says("2 too much (at it): a number beyond what is said, a seventh further FUNCTION (at the word of the LINE),"
            + " a DEGREE above 3, COLOURS that can't be (at the last W).");
        faultAt("bound  ^200001 ;", 2);
        faultAt("modulus \n ^1;", 2);
        faultAt("seed ^100000;", 2);
        faultAt("own f;at f 1 1 ^1000;", 2);
        faultAt("own f;at f 1 1 ^-1000;", 2);
        faultAt(SIX + " \n ^own g;", 2);
        faultAt(SIX + "seed 5;^twist g one 3;", 2);
        faultAt("point a id id;point b a  ^a;", 2);
        faultAt("point a id id;point b a id;point c id  ^b;", 2);
        faultAt("twist a one 3;twist b  ^a 3;", 2);
        faultAt("twist a one 3;twist b one 4;point c a  ^b;", 2);
        reads("point a id id;point b a id;point c b one;", 3);
        reads("twist a one 3;twist b one 4;point c a id;", 3);
    }

    private static void toldAlready() {
        Doc.says("3 told already: bound, modulus, seed (at the word), a name (at the first W).");
        for (String word : new String[] {"bound", "modulus", "seed"}) {
            reads(word + " 5;", 1);
            faultAt(word + " 5; ^" + word + " 5;", 3);
            faultAt(word + " 5;own f;^" + word + " 6;", 3);
        }
        reads("bound 5;modulus 5;seed 5;", 3);
        String[][] forms = {{"own", ""}, {"times", " one one"}, {"over", " one"}, {"point", " one one"}, {"twist", " one 3"}};
        for (String[] form : forms) {
            faultAt("own f;" + form[0] + "  ^f" + form[1] + ";", 3);
            faultAt(form[0] + " ^sigma" + form[1] + ";", 3);
            reads("own f;" + form[0] + " ff" + form[1] + ";", 2);
        }
        faultAt("over f one;point ^f one one;", 3);
        faultAt("twist f one 3;own ^f;", 3);
        faultAt("own abcdef;own ^abcdef;", 3);
        reads("own abcdef;own abcdeg;own abcde;own bbcdef;", 4);
    }

    private static void notThere() {
        Doc.says("4 a FUNCTION that isn't there (at W), at of one that isn't own (at W).");
        faultAt("times g  ^zz one;", 4);
        faultAt("times g one  ^zz;", 4);
        faultAt("over g ^zz;", 4);
        faultAt("point g ^zz one;", 4);
        faultAt("point g one ^zz;", 4);
        faultAt("twist g ^zz 3;", 4);
        faultAt("at ^zz 1 0 0;", 4);
        faultAt("over g ^on;", 4);
        faultAt("over g ^ones;", 4);
        faultAt("over g ^f;own f;", 4);
        faultAt("at ^f 1 0 0;own f;", 4);
        faultAt("over g ^g;", 4);
        faultAt("times g one ^g;", 4);
        for (String known : new String[] {"one", "id", "mu", "phi", "tau", "sigma"}) {
            faultAt("at ^" + known + " 1 0 0;", 4);
        }
        for (String made : new String[] {"times g one one", "over g one", "point g one one", "twist g one 3"}) {
            faultAt(made + ";at ^g 1 0 0;", 4);
        }
        reads("own f;over g f;at f 1 0 0;", 3);
    }
}
