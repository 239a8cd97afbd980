import java.util.ArrayList;
import java.util.List;
import java.util.function.IntToLongFunction;
import java.util.function.Supplier;

/** Two objects with one past: what is refused is asked of one alone, and behind it both must show the same. */
final class Twins {
    interface Call {
        long on(QuotientSums q);
    }

    interface Asked {
        long of(QuotientSums q, int argument);
    }

    static final int THROWS_INDEX = -7001;
    static final int THROWS_ELEMENT = -7002;
    private static final int[] FAR = {Integer.MIN_VALUE, Integer.MIN_VALUE + 1, Integer.MAX_VALUE - 1, Integer.MAX_VALUE};

    private final Supplier<QuotientSums> maker;

    private Twins(Supplier<QuotientSums> maker) {
        this.maker = maker;
    }

    /** BOUND 50, MODULUS 97, FUNCTIONS 0 .. 8, of which 6, 7 own; an IMAGE, three to undo, a FAULT, 20 bytes. */
    static Twins busy() {
        return new Twins(Twins::makeBusy);
    }

    /** BOUND 200000, MODULUS 1000003, FUNCTIONS 0 .. 6, the last one own; one change to undo, an empty TAPE. */
    static Twins wide() {
        return new Twins(Twins::makeWide);
    }

    static Twins told(String text) {
        return new Twins(() -> Check.told(text));
    }

    static QuotientSums makeBusy() {
        QuotientSums q = makeChanged();
        Check.tell(q, "own k;bound 0;");
        Check.feed(q, "own k;bound 9;");
        return q;
    }

    /** As busy, but without a FAULT and with an empty TAPE. */
    static QuotientSums makeChanged() {
        QuotientSums q = Check.told("seed 77;own f;at f 1 3 4;own g;at g 6 -5 9;times h f one;bound 60;modulus 101;");
        q.keep();
        q.bound(50);
        q.modulus(97);
        q.set(6, 2, 5, 6);
        return q;
    }

    private static QuotientSums makeWide() {
        QuotientSums q = Check.told("own f;at f 1 1 0;");
        q.bound(200000);
        return q;
    }

    QuotientSums one() {
        return maker.get();
    }

    void answers(String call, long want, Call asked) {
        Doc.due(call, asked.on(maker.get()), want);
    }

    /** Also for answers that change nothing though they refuse nothing. */
    void leaves(String call, long want, Call asked) {
        QuotientSums one = maker.get();
        Doc.due(call, asked.on(one), want);
        sameShown(call, one, maker.get());
    }

    /** At both ends of a range and next to them inside it answers, next to them outside and far off it refuses. */
    void ends(String call, int least, int most, long refusal, Asked asked, IntToLongFunction want) {
        int[] inside = {least, Math.min(least + 1, most), Math.max(most - 1, least), most};
        for (int argument : inside) {
            answers(call + " with " + argument, want.applyAsLong(argument), q -> asked.of(q, argument));
        }
        refuses(call, least - 1, refusal, asked);
        refuses(call, most + 1, refusal, asked);
        for (int argument : FAR) {
            if (argument < least || argument > most) {
                refuses(call, argument, refusal, asked);
            }
        }
    }

    private void refuses(String call, int argument, long refusal, Asked asked) {
        leaves(call + " with " + argument, refusal, q -> asked.of(q, argument));
    }

    static long function(QuotientSums q, int f, int what) {
        String answer = Check.functionAnswer(q, f, what);
        switch (answer) {
            case "IndexOutOfBoundsException":
                return THROWS_INDEX;
            case "NoSuchElementException":
                return THROWS_ELEMENT;
            default:
                return Long.parseLong(answer);
        }
    }

    /** Asks both for all they show, to the last change, the IMAGE and the TAPE: neither is of use afterwards. */
    static void sameShown(String behind, QuotientSums one, QuotientSums other) {
        List<Long> ones = shown(one);
        List<Long> others = shown(other);
        Doc.due("how much is shown behind " + behind, ones.size(), others.size());
        for (int i = 0; i < ones.size() && i < others.size(); i++) {
            Doc.due("what is shown behind " + behind + ", the row's " + i, ones.get(i), others.get(i));
        }
    }

    private static List<Long> shown(QuotientSums q) {
        List<Long> all = new ArrayList<>();
        numbers(q, all);
        functions(q, all);
        values(q, all);
        for (int left = q.undo(); left >= 0; left = q.undo()) {
            all.add((long) left);
            numbers(q, all);
        }
        all.add((long) q.back());
        numbers(q, all);
        all.add((long) q.text(q.count(5)));
        numbers(q, all);
        return all;
    }

    private static void numbers(QuotientSums q, List<Long> all) {
        for (int what = 0; what < 7; what++) {
            all.add((long) q.count(what));
        }
        all.add((long) q.fault(0));
        all.add((long) q.fault(1));
        told(q, 6, all);
        told(q, 7, all);
    }

    private static void told(QuotientSums q, int f, List<Long> all) {
        for (int power = 1; power < 7; power++) {
            all.add((long) q.told(f, power, false));
            all.add((long) q.told(f, power, true));
        }
    }

    private static void functions(QuotientSums q, List<Long> all) {
        for (int f = 0; f < 13; f++) {
            for (int what = 0; what < 5; what++) {
                all.add(function(q, f, what));
            }
        }
        for (String name : new String[] {"one", "id", "mu", "phi", "tau", "sigma", "f", "g", "h", "k"}) {
            all.add((long) q.named(Check.letters(name)));
        }
        for (int f = 8; f < 12; f++) {
            told(q, f, all);
        }
    }

    private static void values(QuotientSums q, List<Long> all) {
        for (int f = 0; f < 9; f++) {
            all.add((long) q.value(f, 36));
            all.add((long) q.sum(f, 40));
        }
        all.add((long) q.chance(-1, 3, 1));
        all.add((long) q.first(5, 3));
    }
}
