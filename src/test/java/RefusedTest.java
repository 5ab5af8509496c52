import java.util.Arrays;
import java.util.List;
import java.util.function.Predicate;
import java.util.function.Supplier;
import java.util.function.ToLongFunction;

/**
 * "What is refused answers as told and changes nothing": every refused call of each promise, at the bounds
 * and far from them, on a house that is half full and on one that is full.
 */
public final class RefusedTest {
    private static final int NOTHING = -1;
    private static final int NONE = -1;
    private static final int NO_COINS = -1000000;
    private static final int NOT_MARKED = -20000;
    private static final long UNTOLD = -1000000000000L;
    /** Numbers of neither works, users, rules nor parts; some are small ones again if a shift or a sum wraps. */
    private static final int[] NOBODY = {
        Integer.MIN_VALUE, Integer.MIN_VALUE + 1, -33, -32, -8, -1, 8, 9, 31, 32, 33, 64, 256,
        1 << 16, Integer.MAX_VALUE - 1, Integer.MAX_VALUE};

    private final Supplier<BillHouse> making;
    private final List<String> before;
    private final int works;
    private final int users;
    private final int away;

    private RefusedTest(Supplier<BillHouse> making, int away) {
        this.making = making;
        this.away = away;
        before = Readings.of(making);
        works = making.get().count(0);
        users = making.get().count(1);
    }

    public static void main(String[] args) {
        Due.about("half full");
        RefusedTest half = new RefusedTest(Houses::halfFull, 2);
        half.refuseAll();
        half.askAll();
        Due.about("full");
        Due.is("lines of the full house", Houses.full().count(3), 400);
        RefusedTest full = new RefusedTest(Houses::full, 7);
        full.refuseAll();
        full.refuseWhatIsFull();
        full.askAll();
        Due.about("empty");
        new RefusedTest(BillHouse::new, 0).refuseAll();
        Due.end();
    }

    private void refuseAll() {
        outOfBounds();
        noSuchWork();
        noSuchUser();
        noSuchRule();
        noSuchPart();
        noSuchLine();
        bitsOfNone();
        oneWhoIsAway();
    }

    private void refused(String call, ToLongFunction<BillHouse> calling, long want) {
        Due.is(call, calling.applyAsLong(making.get()), want);
        changesNothing(call, calling);
    }

    private void isFalse(String call, Predicate<BillHouse> calling) {
        refused(call, h -> calling.test(h) ? 1 : 0, 0);
    }

    private void changesNothing(String call, ToLongFunction<BillHouse> calling) {
        List<String> after = Readings.of(() -> {
            BillHouse h = making.get();
            calling.applyAsLong(h);
            return h;
        });
        Due.is(call + " changes nothing", firstOther(after), NOTHING);
    }

    /** Where the answers differ, told on the way; NOTHING if they do not. */
    private int firstOther(List<String> after) {
        for (int i = 0; i < before.size() && i < after.size(); i++) {
            if (!after.get(i).equals(before.get(i))) {
                System.out.println("was " + before.get(i) + ", is " + after.get(i));
                return i;
            }
        }
        return before.size() == after.size() ? NOTHING : Math.min(before.size(), after.size());
    }

    private void outOfBounds() {
        for (int fixed : new int[] {Integer.MIN_VALUE, -10000, -1, 10001, 65536, Integer.MAX_VALUE}) {
            refused("work(" + fixed + ", 5)", h -> h.work(fixed, 5), NONE);
            isFalse("change(0, " + fixed + ", 5)", h -> h.change(0, fixed, 5));
        }
        for (int step : new int[] {Integer.MIN_VALUE, -100, -1, 101, 256, Integer.MAX_VALUE}) {
            refused("work(5, " + step + ")", h -> h.work(5, step), NONE);
            isFalse("change(0, 5, " + step + ")", h -> h.change(0, 5, step));
        }
        for (int units : new int[] {Integer.MIN_VALUE, -9, -1, 10, 16, 256, Integer.MAX_VALUE}) {
            isFalse("use(0, 0, " + units + ")", h -> h.use(0, 0, units));
            isFalse("feed(0, 1, " + units + ")", h -> h.feed(0, 1, units));
        }
        for (int work = 0; work < 6; work++) {
            int itself = work;
            isFalse("feed by itself " + work, h -> h.feed(itself, itself, 1));
            isFalse("feed by itself nothing " + work, h -> h.feed(itself, itself, 0));
        }
        // Whatever is marked so far, these lead out of the bounds.
        for (int coins : new int[] {Integer.MIN_VALUE, Integer.MIN_VALUE + 10000, -20001, 20001, Integer.MAX_VALUE - 10000, Integer.MAX_VALUE}) {
            for (int user = 0; user < 8; user++) {
                int one = user;
                refused("mark(" + user + ", " + coins + ")", h -> h.mark(one, coins), NOT_MARKED);
            }
        }
    }

    private void noSuchWork() {
        for (int work : withNext(works)) {
            isFalse("change(" + work + ", 5, 5)", h -> h.change(work, 5, 5));
            isFalse("use(" + work + ", 0, 4)", h -> h.use(work, 0, 4));
            isFalse("feed(" + work + ", 0, 4)", h -> h.feed(work, 0, 4));
            isFalse("feed(0, " + work + ", 4)", h -> h.feed(0, work, 4));
            refused("total(" + work + ")", h -> h.total(work), NONE);
            refused("price(" + work + ", 0)", h -> h.price(work, 0), UNTOLD);
            refused("price(" + work + ", 1)", h -> h.price(work, 1), UNTOLD);
        }
    }

    private void noSuchUser() {
        for (int user : withNext(users)) {
            isFalse("use(0, " + user + ", 4)", h -> h.use(0, user, 4));
            isFalse("set(" + user + ", true)", h -> h.set(user, true));
            isFalse("set(" + user + ", false)", h -> h.set(user, false));
            refused("mark(" + user + ", 3)", h -> h.mark(user, 3), NOT_MARKED);
            refused("saved(" + user + ")", h -> h.saved(user), NONE);
            refused("booked(" + user + ")", h -> h.booked(user), 0);
            noBills(user);
        }
    }

    private void noBills(int user) {
        for (int rule = 0; rule < 3; rule++) {
            int one = rule;
            refused("bill(" + rule + ", " + user + ", 0)", h -> h.bill(one, user, 0), UNTOLD);
            refused("bill(" + rule + ", " + user + ", 1)", h -> h.bill(one, user, 1), UNTOLD);
            refused("coins(" + rule + ", " + user + ")", h -> h.coins(one, user), NO_COINS);
        }
    }

    private void noSuchRule() {
        for (int rule : withNext(3)) {
            refused("bill(" + rule + ", 0, 0)", h -> h.bill(rule, 0, 0), UNTOLD);
            refused("bill(" + rule + ", 0, 1)", h -> h.bill(rule, 0, 1), UNTOLD);
            refused("coins(" + rule + ", 0)", h -> h.coins(rule, 0), NO_COINS);
            refused("leaving(" + rule + ")", h -> h.leaving(rule), NONE);
            refused("book(" + rule + ")", h -> h.book(rule), NONE);
            refused("differ(" + rule + ", " + rule + ")", h -> h.differ(rule, rule), NONE);
            for (int other = 0; other < 3; other++) {
                int good = other;
                refused("differ(" + rule + ", " + other + ")", h -> h.differ(rule, good), NONE);
                refused("differ(" + other + ", " + rule + ")", h -> h.differ(good, rule), NONE);
            }
        }
    }

    private void noSuchPart() {
        for (int what : withNext(2)) {
            refused("price(0, " + what + ")", h -> h.price(0, what), UNTOLD);
            for (int rule = 0; rule < 3; rule++) {
                int one = rule;
                refused("bill(" + rule + ", 0, " + what + ")", h -> h.bill(one, 0, what), UNTOLD);
            }
        }
        for (int what : withNext(3)) {
            refused("line(0, " + what + ")", h -> h.line(0, what), NO_COINS);
        }
        for (int what : withNext(7)) {
            refused("count(" + what + ")", h -> h.count(what), NO_COINS);
        }
    }

    private void noSuchLine() {
        int lines = making.get().count(3);
        for (int i : new int[] {Integer.MIN_VALUE, -400, -1, lines, lines + 1, 400, 401, 1 << 16, Integer.MAX_VALUE}) {
            for (int what = 0; what < 3; what++) {
                int part = what;
                refused("line(" + i + ", " + what + ")", h -> h.line(i, part), NO_COINS);
            }
        }
    }

    private void bitsOfNone() {
        int all = (1 << users) - 1;
        for (int bit = users; bit < 32; bit++) {
            int alone = 1 << bit;
            refused("cost(" + alone + ")", h -> h.cost(alone), NONE);
            refused("cost(" + (alone | all) + ")", h -> h.cost(alone | all), NONE);
        }
        refused("cost(-1)", h -> h.cost(-1), NONE);
    }

    private void oneWhoIsAway() {
        if (away < users) {
            isFalse("set(" + away + ", false)", h -> h.set(away, false));
            refused("saved(" + away + ")", h -> h.saved(away), NONE);
            noBills(away);
            isFalse("set(0, true)", h -> h.set(0, true));
        }
    }

    private void refuseWhatIsFull() {
        refused("work(0, 0) with six", h -> h.work(0, 0), NONE);
        refused("work(10000, 100) with six", h -> h.work(10000, 100), NONE);
        refused("user() with eight", BillHouse::user, NONE);
        for (int rule = 0; rule < 3; rule++) {
            int one = rule;
            refused("book(" + rule + ") with 400 lines", h -> h.book(one), NONE);
        }
        refused("mark(0, 1) with 10000", h -> h.mark(0, 1), NOT_MARKED);
        refused("mark(1, -1) with -10000", h -> h.mark(1, -1), NOT_MARKED);
    }

    /** A call that only asks changes nothing either, whatever it answers. */
    private void askAll() {
        for (int rule = 0; rule < 3; rule++) {
            int one = rule;
            changesNothing("bill " + rule, h -> h.bill(one, 0, 0));
            changesNothing("coins " + rule, h -> h.coins(one, 1));
            changesNothing("leaving " + rule, h -> h.leaving(one));
            changesNothing("differ 0 " + rule, h -> h.differ(0, one));
        }
        changesNothing("needed", BillHouse::needed);
        changesNothing("idle", BillHouse::idle);
        changesNothing("total", h -> h.total(0));
        changesNothing("cost", h -> h.cost(7));
        changesNothing("price", h -> h.price(0, 0));
        changesNothing("saved", h -> h.saved(0));
        changesNothing("booked", h -> h.booked(0));
        changesNothing("line", h -> h.line(0, 0));
        changesNothing("count", h -> h.count(5));
    }

    /** The first numbers that are none, and those far away. */
    private static int[] withNext(int next) {
        int[] numbers = Arrays.copyOf(NOBODY, NOBODY.length + 2);
        numbers[NOBODY.length] = next;
        numbers[NOBODY.length + 1] = next + 1;
        return numbers;
    }
}
