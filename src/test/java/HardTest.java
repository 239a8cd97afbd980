import java.util.NoSuchElementException;
import java.util.Random;

/** Calls with any numbers at all: nothing but what the document names is thrown, and a refused call changes nothing. */
public final class HardTest {
    private static final int[] NUMBERS = {Integer.MIN_VALUE, Integer.MIN_VALUE + 1, -65536, -1001, -1000, -3, -2, -1, 0, 1, 2,
        3, 4, 5, 6, 7, 8, 11, 12, 13, 16, 17, 18, 19, 20, 40, 99, 100, 101, 447, 448, 699, 700, 701, 999, 1000, 1001, 46340,
        46341, 65536, 199999, 200000, 200001, 200003, 200004, 1000002, 1000003, 1000004, Integer.MAX_VALUE - 1,
        Integer.MAX_VALUE};
    private static final String[] TEXTS = {"own f;at f 1 999 -999;times g f sigma;over h g;twist t phi 3;point p t h;over u p;",
        "bound 1;modulus 2;", "bound 200000;own a;own b;own c;own d;own e;own f;", "bound 2;twist t one 4;over s t;", "bound x"};

    private HardTest() {
    }

    public static void main(String[] args) {
        for (int run = 0; run < 60; run++) {
            run(new Random(1000 + run));
        }
        Check.finish("HardTest");
    }

    private static void run(Random random) {
        QuotientSums q = new QuotientSums();
        for (int i = 0; i < 512; i++) {
            if (random.nextInt(40) == 0) {
                Check.tell(q, TEXTS[random.nextInt(TEXTS.length)]);
            }
            int kind = random.nextInt(37);
            int[] a = new int[5];
            for (int j = 0; j < 5; j++) {
                a[j] = random.nextInt(3) == 0 ? random.nextInt(13) : random.nextInt(30) == 0 ? random.nextInt()
                    : NUMBERS[random.nextInt(NUMBERS.length)];
            }
            String before = state(q);
            long got = call(q, kind, a, random.nextBoolean());
            if (got < 0 && kind != 1 && !before.equals(state(q))) {
                Check.due("call " + kind + " is refused and changes", 1, 0);
            }
        }
    }

    private static String state(QuotientSums q) {
        StringBuilder all = new StringBuilder();
        for (int what = 0; what < 7; what++) {
            all.append(q.count(what)).append(' ');
        }
        for (int f = 6; f < 12; f++) {
            for (int power = 1; power < 7; power++) {
                all.append(q.told(f, power, false)).append(' ').append(q.told(f, power, true)).append(' ');
            }
        }
        return all.toString();
    }

    private static long call(QuotientSums q, int kind, int[] a, boolean flag) {
        try {
            return kind < 19 ? early(q, kind, a, flag) : late(q, kind, a, flag);
        } catch (IndexOutOfBoundsException | NoSuchElementException e) {
            boolean named = e.getClass() == IndexOutOfBoundsException.class || e.getClass() == NoSuchElementException.class;
            Check.due("call " + kind + " throws " + e, kind == 4 && named, true);
        } catch (RuntimeException e) {
            Check.due("call " + kind + " throws " + e, 1, 0);
        }
        return -1;
    }

    private static long early(QuotientSums q, int kind, int[] a, boolean flag) {
        return switch (kind) {
            case 0 -> q.feed(a[0], a[1], a[2], a[3], a[4]);
            case 1 -> q.text(a[0]);
            case 2 -> q.fault(a[0]);
            case 3 -> q.named(a[0]);
            case 4 -> q.function(a[0], a[1]);
            case 5 -> q.told(a[0], a[1], flag);
            case 6 -> q.bound(a[0]);
            case 7 -> q.modulus(a[0]);
            case 8 -> q.set(a[0], a[1], a[2], a[3]) ? 1 : -1;
            case 9 -> q.value(a[0], a[1]);
            case 10 -> q.atPower(a[0], a[1], a[2]);
            case 11 -> q.sum(a[0], a[1]);
            case 12 -> q.range(a[0], a[1], a[2]);
            case 13 -> q.primes(a[0], a[1]);
            case 14 -> q.quotients(a[0]);
            case 15 -> q.quotient(a[0], a[1]);
            case 16 -> q.block(a[0], a[1], flag);
            case 17 -> q.hyper(a[0], a[1], a[2]);
            default -> q.common(a[0], a[1]);
        };
    }

    private static long late(QuotientSums q, int kind, int[] a, boolean flag) {
        return switch (kind) {
            case 19 -> q.coprime(a[0]);
            case 20 -> q.many(a[0], a[1]);
            case 21 -> q.full(a[0]);
            case 22 -> q.fullSum(a[0], a[1]);
            case 23 -> q.smooth(a[0], a[1], a[2]);
            case 24 -> q.rough(a[0], a[1], a[2]);
            case 25 -> q.first(a[0], a[1]);
            case 26 -> q.parts(a[0], a[1]);
            case 27 -> q.best(a[0], a[1], flag);
            case 28 -> q.howMany(a[0], a[1], a[2]);
            case 29 -> q.blocks(a[0], a[1]);
            case 30 -> q.isWhole(a[0]);
            case 31 -> q.chance(a[0], a[1], a[2]);
            case 32 -> q.undo();
            case 33 -> q.keep();
            case 34 -> q.back();
            default -> q.count(a[0]);
        };
    }
}
