/**
 * No call throws, for any arguments in any state: all calls with all of some arguments, most of them far
 * out of bounds, on houses from empty to full. What is answered is looked at by the other tests.
 */
public final class NeverThrowsTest {
    private static final int[] ARGUMENTS = {
        Integer.MIN_VALUE, Integer.MIN_VALUE + 1, -65536, -32, -1, 0, 1, 2, 3, 5, 6, 7, 8, 9, 10, 31, 32, 33,
        100, 101, 255, 256, 399, 400, 401, 10000, 10001, 65536, Integer.MAX_VALUE - 1, Integer.MAX_VALUE};
    private static final int CALLS = 21;
    private static final int RUNS = 600;

    private long state;

    private NeverThrowsTest(int run) {
        state = run * 104729L + 3;
    }

    public static void main(String[] args) {
        each(0);
        each(1);
        each(2);
        for (int run = 0; run < RUNS; run++) {
            new NeverThrowsTest(run).go();
        }
        Due.end();
    }

    private static BillHouse start(int kind) {
        return kind == 0 ? new BillHouse() : kind == 1 ? Houses.halfFull() : Houses.full();
    }

    /** A house for each first argument, so that none is used for more than 512 calls. */
    private static void each(int kind) {
        for (int call = 0; call < CALLS; call++) {
            for (int one : ARGUMENTS) {
                BillHouse h = start(kind);
                for (int other : ARGUMENTS) {
                    answer(h, call, one, other, 1);
                }
            }
        }
    }

    /** What changes is drawn more often, mostly within bounds, so that the state goes far. */
    private void go() {
        BillHouse h = new BillHouse();
        for (int i = 0; i < 512; i++) {
            int call = draw(3) == 0 ? draw(CALLS) : draw(8);
            if (draw(4) == 0) {
                answer(h, call, ARGUMENTS[draw(ARGUMENTS.length)], ARGUMENTS[draw(ARGUMENTS.length)],
                        ARGUMENTS[draw(ARGUMENTS.length)]);
            } else {
                answer(h, call, draw(8), draw(8), draw(10));
            }
        }
    }

    private int draw(int bound) {
        state = state * 6364136223846793005L + 1442695040888963407L;
        return (int) ((state >>> 33) % bound);
    }

    private static void answer(BillHouse h, int call, int a, int b, int c) {
        String what = "call " + call + " with " + a + ", " + b + ", " + c;
        try {
            ask(h, call, a, b, c);
            Due.is(what, true, true);
        } catch (RuntimeException thrown) {
            Due.is(what + " threw " + thrown, true, false);
        }
    }

    private static long ask(BillHouse h, int call, int a, int b, int c) {
        return switch (call) {
            case 0 -> h.work(a, b);
            case 1 -> h.user();
            case 2 -> h.change(a, b, c) ? 1 : 0;
            case 3 -> h.use(a, b, c) ? 1 : 0;
            case 4 -> h.feed(a, b, c) ? 1 : 0;
            case 5 -> h.set(a, b % 2 == 0) ? 1 : 0;
            case 6 -> h.mark(a, b);
            case 7 -> h.book(a);
            case 8 -> h.needed();
            case 9 -> h.idle();
            case 10 -> h.total(a);
            case 11 -> h.cost(a);
            case 12 -> h.price(a, b);
            case 13 -> h.bill(a, b, c);
            case 14 -> h.coins(a, b);
            case 15 -> h.leaving(a);
            case 16 -> h.saved(a);
            case 17 -> h.differ(a, b);
            case 18 -> h.booked(a);
            case 19 -> h.line(a, b);
            default -> h.count(a);
        };
    }
}
