import java.nio.charset.StandardCharsets;
import java.util.NoSuchElementException;

/** What the tests share: comparing an answer with the one that is due, and feeding a text. */
final class Check {
    private static final int MOST_PRINTED = 40;
    private static int wrong = 0;

    private Check() {
    }

    static void due(String call, long got, long want) {
        if (got != want) {
            wrong++;
            if (wrong <= MOST_PRINTED) {
                System.out.println(call + " answered " + got + ", due is " + want);
            }
        }
    }

    static void due(String call, boolean got, boolean want) {
        due(call, got ? 1L : 0L, want ? 1L : 0L);
    }

    static int wrongs() {
        return wrong;
    }

    /** What function() answers, as text: a number or the name of what it throws. */
    static String functionAnswer(QuotientSums q, int f, int what) {
        try {
            return Integer.toString(q.function(f, what));
        } catch (IndexOutOfBoundsException e) {
            return "IndexOutOfBoundsException";
        } catch (NoSuchElementException e) {
            return "NoSuchElementException";
        }
    }

    static void function(QuotientSums q, int f, int what, String want) {
        String got = functionAnswer(q, f, what);
        if (!got.equals(want)) {
            due("function(" + f + ", " + what + ") is " + got + ", due is " + want + ";", 0, 1);
        }
    }

    /** Feeds a text (blanks fill the last twenty bytes) and reads it: what text() answers. */
    static int tell(QuotientSums q, String text) {
        feed(q, text);
        return q.text(text.length());
    }

    static void feed(QuotientSums q, String text) {
        byte[] bytes = text.getBytes(StandardCharsets.ISO_8859_1);
        for (int from = 0; from < bytes.length; from += 20) {
            int[] fives = new int[5];
            for (int i = 0; i < 20; i++) {
                int b = from + i < bytes.length ? bytes[from + i] & 255 : 32;
                fives[i / 4] = fives[i / 4] << 8 | b;
            }
            q.feed(fives[0], fives[1], fives[2], fives[3], fives[4]);
        }
    }

    static QuotientSums told(String text) {
        QuotientSums q = new QuotientSums();
        if (tell(q, text) < 0) {
            due("the text '" + text + "' has a fault", 1, 0);
        }
        return q;
    }

    static int letters(String name) {
        int packed = 0;
        for (int i = 0; i < 6; i++) {
            packed = packed << 5 | (i < name.length() ? name.charAt(i) - 96 : 0);
        }
        return packed;
    }

    static void finish(String test) {
        System.out.println(test + ": " + (wrong == 0 ? "all answers are as due" : wrong + " answers are not as due"));
        if (wrong != 0) {
            System.exit(1);
        }
    }
}
