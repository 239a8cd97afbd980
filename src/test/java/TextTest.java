/** Texts with their FAULT and its place, or with how many LINES they have. */
public final class TextTest {
    private TextTest() {
    }

    public static void main(String[] args) {
        good();
        tokens();
        tooMuch();
        toldAlready();
        notThere();
        order();
        degreesAndColours();
        everyShorterText();
        Check.finish("TextTest");
    }

    private static void lines(String text, int want) {
        QuotientSums q = new QuotientSums();
        Check.due("'" + text + "'", Check.tell(q, text), want);
        Check.due("'" + text + "', fault(0)", q.fault(0), 0);
        Check.due("'" + text + "', fault(1)", q.fault(1), -1);
    }

    private static void fault(String text, int fault, int place) {
        QuotientSums q = new QuotientSums();
        Check.due("'" + text + "'", Check.tell(q, text), -1);
        Check.due("'" + text + "', fault(0)", q.fault(0), fault);
        Check.due("'" + text + "', fault(1)", q.fault(1), place);
    }

    private static void good() {
        lines("", 0);
        lines(" \n ", 0);
        lines("bound 1;", 1);
        lines("bound 200000;modulus 1000003;seed 99999;", 3);
        lines("modulus 2;seed 0;bound 0000001;", 3);
        lines("\n own\nf\n;\n at f 1 -999 999 ; ", 2);
        lines("bound7;modulus9;", 2);
        lines("own f;at f1 2-3;", 2);
        lines("own f;at f 6 -0 000;at f 6 1 1;", 2 + 1);
        lines("own a;own b;own c;own d;own e;own abcdef;", 6);
        lines("own ones;own boun;own bounds;own module;", 4);
        lines("times a one one;times b a a;over c b;point d c id;twist e d 4;", 5);
    }

    private static void tokens() {
        fault(";", 1, 0);
        fault("  ;", 1, 2);
        fault("own", 1, 3);
        fault("own  ", 1, 5);
        fault("own f", 1, 5);
        fault("own f \n", 1, 7);
        fault("own f g;", 1, 6);
        fault("own f;;", 1, 6);
        fault("own 5;", 1, 4);
        fault("own F;", 1, 4);
        fault("own f;x;", 1, 6);
        fault("5;", 1, 0);
        fault("f;", 1, 0);
        fault("one;", 1, 0);
        fault("owns f;", 1, 0);
        fault("Own f;", 1, 0);
        fault("own\tf;", 1, 3);
        fault("own\rf;", 1, 3);
        fault("own own;", 1, 4);
        fault("own at;", 1, 4);
        fault("own modulus;", 1, 4);
        fault("own abcdefg;", 1, 4);
        fault("own moduluss;", 1, 4);
        fault("abcdefgh", 1, 0);
        fault("bound;", 1, 5);
        fault("bound x;", 1, 6);
        fault("bound -5;", 1, 6);
        fault("bound - 5;", 1, 6);
        fault("bound 5 6;", 1, 8);
        fault("bound 5-6;", 1, 7);
        fault("bound 5x;", 1, 7);
        fault("own f;at f 1 - 1 0;", 1, 13);
        fault("own f;at f 1 --1 0;", 1, 13);
        fault("own f;at f 1 1 -;", 1, 15);
        fault("own f;at f 1 1;", 1, 14);
        fault("own f;at f 1 1 1 1;", 1, 17);
        fault("own f;at f 1 x 1;", 1, 13);
        fault("own f;at f x 1 1;", 1, 11);
        fault("own f;at 1 1 1;", 1, 9);
        fault("twist t one;", 1, 11);
        fault("twist t one -3;", 1, 12);
        fault("times g one;", 1, 11);
        fault("times g one over;", 1, 12);
        fault("over h one two;", 1, 11);
        fault("\u0000", 1, 0);
        fault("own f;\u00ff", 1, 6);
    }

    private static void tooMuch() {
        fault("bound 0;", 2, 6);
        fault("bound 200001;", 2, 6);
        fault("bound 99999999999999999999999999;", 2, 6);
        fault("bound 4294967297;", 2, 6);
        fault("modulus 0;", 2, 8);
        fault("modulus 1;", 2, 8);
        fault("modulus 1000004;", 2, 8);
        fault("seed 100000;", 2, 5);
        fault("own f;at f 0 0 0;", 2, 11);
        fault("own f;at f 7 0 0;", 2, 11);
        fault("own f;at f 1 1000 0;", 2, 13);
        fault("own f;at f 1 0 -1000;", 2, 15);
        fault("own f;at f 1 0 -99999999999999999999;", 2, 15);
        fault("twist t one 2;", 2, 12);
        fault("twist t one 5;", 2, 12);
        fault("own a;own b;own c;own d;own e;own g;own h;", 2, 36);
        fault("own a;own b;own c;own d;own e;own g;over a one;", 2, 36);
        fault("own a;own b;own c;own d;own e;own g;times", 2, 36);
        fault("own a;own b;own c;own d;own e;own g;point", 2, 36);
        fault("own a;own b;own c;own d;own e;own g;twist", 2, 36);
        lines("own a;own b;own c;own d;own e;own g;at g 1 1 1;bound 5;", 8);
    }

    private static void toldAlready() {
        fault("bound 5;bound 5;", 3, 8);
        fault("modulus 5;bound 5;modulus", 3, 18);
        fault("seed 5;seed x;", 3, 7);
        fault("own one;", 3, 4);
        fault("own f;over f one;", 3, 11);
        fault("times sigma one one;", 3, 6);
        fault("point tau x", 3, 6);
        fault("twist mu", 3, 6);
    }

    private static void notThere() {
        fault("at f 1 0 0;", 4, 3);
        fault("at one 1 0 0;", 4, 3);
        fault("over h one;at h 1 0 0;", 4, 14);
        fault("over h h;", 4, 7);
        fault("times g g one;", 4, 8);
        fault("times g one g;", 4, 12);
        fault("point g one x;", 4, 12);
        fault("twist g x 9;", 4, 8);
        fault("own f;bound 5;over g ff;", 4, 21);
    }

    /** The first along the text counts, not the first found out. */
    private static void order() {
        fault("own f;bound 0;own f", 2, 12);
        fault("twist a one 3;twist b a 9;", 2, 22);
        fault("twist a one 3;twist b a", 2, 22);
        fault("point a id id;point b a a", 2, 24);
        fault("bound 0 abcdefgh;", 2, 6);
        fault("bound 5;bound -;", 3, 8);
        fault("own f;at f 9 - 0;", 2, 11);
        fault("over one zz;", 3, 5);
    }

    private static void degreesAndColours() {
        lines("point a id id;point b a id;", 2);
        fault("point a id id;point b a id;point c b id;", 2, 37);
        fault("point a id phi;own f;point b a f;point c b sigma;", 2, 43);
        lines("point a id phi;point b tau mu;point c a b;times d a c;", 4);
        fault("point a id phi;times b a one;point c b a;", 2, 39);
        fault("point a id phi;over b a;point c a b;", 2, 34);
        fault("point a id phi;twist b a 3;point c b a;", 2, 37);
        fault("twist a one 3;twist b a 4;", 2, 22);
        fault("twist a one 3;times b a one;twist c b 3;", 2, 36);
        fault("twist a one 3;over b a;twist c b 4;", 2, 31);
        fault("twist a one 3;point b one a;twist c b 4;", 2, 36);
        fault("twist a one 3;point b a a;", 2, 24);
        fault("twist a one 3;twist b id 4;point c a b;", 2, 37);
        lines("twist a one 3;twist b id 4;times c a b;times d c a;point e d phi;", 5);
    }

    /** A text cut short is a whole one behind ';' and else wants more at its length, or has a fault ahead. */
    private static void everyShorterText() {
        String text = "own f;at f 1 -12 34;times g f one;twist t g 3;bound 77;";
        int whole = 0;
        for (int n = 0; n <= text.length(); n++) {
            QuotientSums q = new QuotientSums();
            Check.feed(q, text);
            int got = q.text(n);
            boolean atEnd = n == 0 || text.charAt(n - 1) == ';';
            whole += n > 0 && atEnd ? 1 : 0;
            Check.due("the first " + n, got, atEnd ? whole : -1);
            Check.due("a fault in the first " + n, q.fault(0) == 0, atEnd);
            Check.due("no place behind the first " + n, q.fault(1) <= n, true);
        }
    }
}
