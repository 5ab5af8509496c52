import java.util.ArrayList;
import java.util.List;
import java.util.function.ToLongFunction;

/**
 * Runs of calls that are drawn the same way each time, on BillHouse and on SlowHouse beside it. Now and then
 * all answers are compared, each hundred of them on a house that the run is told to anew, so that no house
 * is used for more than the 512 calls that the document allows.
 */
public final class AgainstSlowHouseTest {
    private static final int RUNS = 160;
    private static final int CALLS = 300;
    private static final int MOST_CALLS = 512;
    private static final int ASKED_AT_ONCE = 100;
    private static final int[] WRONG = {Integer.MIN_VALUE, -1, 3, 6, 8, 10, 31, 32, 101, 10001, Integer.MAX_VALUE};

    private record Call(String words, ToLongFunction<BillHouse> making, long want) {
        void check(BillHouse house) {
            Due.is(words, making.applyAsLong(house), want);
        }
    }

    private long state;
    private final BillHouse house = new BillHouse();
    private final SlowHouse slow = new SlowHouse();
    private final List<Call> done = new ArrayList<>();
    private final List<Call> questions = new ArrayList<>();
    private final int mostUsers;
    private final int leastUnits;

    private AgainstSlowHouseTest(int run) {
        state = run * 7919L + 17;
        // All orders of eight users are slow to walk one by one, so few runs have so many.
        mostUsers = run % 20 == 0 ? 8 : 1 + run % 5;
        // Some runs stay at great units, where the numbers of the prices are greatest.
        leastUnits = run % 4 == 0 ? 7 : 0;
    }

    public static void main(String[] args) {
        for (int run = 0; run < RUNS && Due.wrong() == 0; run++) {
            new AgainstSlowHouseTest(run).go(run);
        }
        Due.end();
    }

    private void go(int run) {
        int calls = mostUsers == 8 ? CALLS / 3 : CALLS;
        start();
        for (int i = 0; i < calls && Due.wrong() == 0; i++) {
            step();
            if (i % 50 == 49) {
                compareAll();
            }
        }
        Due.is("calls of a run are few enough", done.size() + ASKED_AT_ONCE <= MOST_CALLS, true);
        if (Due.wrong() != 0) {
            System.out.println("run " + run + ":");
            done.forEach(call -> System.out.println(call.words + " " + call.want));
        }
    }

    private int draw(int bound) {
        state = state * 6364136223846793005L + 1442695040888963407L;
        return (int) ((state >>> 33) % bound);
    }

    /** Mostly below a bound, at times far out of it. */
    private int pick(int bound) {
        return draw(25) == 0 ? WRONG[draw(WRONG.length)] : draw(bound);
    }

    private int units() {
        return draw(3) == 0 ? pick(10) : leastUnits + draw(10 - leastUnits);
    }

    private int fixed() {
        return draw(3) == 0 ? 0 : draw(2) == 0 ? pick(30) : pick(10001);
    }

    private int stepPrice() {
        return draw(3) == 0 ? 0 : pick(101);
    }

    private void call(String words, ToLongFunction<BillHouse> making, long want) {
        Call call = new Call(words, making, want);
        done.add(call);
        call.check(house);
    }

    private void call(String words, ToLongFunction<BillHouse> making, boolean want) {
        call(words, making, want ? 1 : 0);
    }

    private void ask(String words, ToLongFunction<BillHouse> making, long want) {
        questions.add(new Call(words, making, want));
    }

    private void start() {
        int works = draw(7);
        for (int i = 0; i < works; i++) {
            work();
        }
        for (int i = draw(2); i < mostUsers; i++) {
            user();
        }
        for (int i = 0; i < works * (works + mostUsers) / 2; i++) {
            if (draw(2) == 0) {
                use();
            } else {
                feed();
            }
        }
    }

    private void work() {
        int fixed = fixed();
        int step = stepPrice();
        call("work(" + fixed + ", " + step + ")", h -> h.work(fixed, step), slow.work(fixed, step));
    }

    private void user() {
        if (slow.count(1) < mostUsers || mostUsers == 8) {
            call("user()", BillHouse::user, slow.user());
        }
    }

    private void change() {
        int work = pick(6);
        int fixed = fixed();
        int step = stepPrice();
        String words = "change(" + work + ", " + fixed + ", " + step + ")";
        call(words, h -> h.change(work, fixed, step) ? 1 : 0, slow.change(work, fixed, step));
    }

    private void use() {
        int work = pick(6);
        int user = pick(mostUsers);
        int units = units();
        String words = "use(" + work + ", " + user + ", " + units + ")";
        call(words, h -> h.use(work, user, units) ? 1 : 0, slow.use(work, user, units));
    }

    private void feed() {
        int work = pick(6);
        int by = pick(6);
        int units = units();
        String words = "feed(" + work + ", " + by + ", " + units + ")";
        call(words, h -> h.feed(work, by, units) ? 1 : 0, slow.feed(work, by, units));
    }

    private void set() {
        int user = pick(mostUsers);
        boolean there = draw(3) != 0;
        call("set(" + user + ", " + there + ")", h -> h.set(user, there) ? 1 : 0, slow.set(user, there));
    }

    private void mark() {
        int user = pick(mostUsers);
        int coins = draw(4) == 0 ? draw(30001) - 15000 : draw(41) - 20;
        call("mark(" + user + ", " + coins + ")", h -> h.mark(user, coins), slow.mark(user, coins));
    }

    private void book() {
        int rule = pick(3);
        call("book(" + rule + ")", h -> h.book(rule), slow.book(rule));
    }

    private void step() {
        switch (draw(17)) {
            case 0 -> work();
            case 1 -> change();
            case 2, 3 -> use();
            case 4, 5 -> feed();
            case 6 -> set();
            case 7 -> mark();
            case 8, 9, 10 -> book();
            case 11 -> user();
            default -> {
                // Questions among the changes, so that what was worked out for one is not kept for too long.
                askOne();
                Call question = questions.remove(questions.size() - 1);
                call(question.words, question.making, question.want);
            }
        }
    }

    private void askOne() {
        switch (draw(5)) {
            case 0 -> price(pick(6), pick(2));
            case 1 -> bill(pick(3), pick(mostUsers), pick(2));
            case 2 -> coins(pick(3), pick(mostUsers));
            case 3 -> leaving(pick(3));
            default -> differ(pick(3), pick(3));
        }
    }

    private void price(int work, int what) {
        ask("price(" + work + ", " + what + ")", h -> h.price(work, what), slow.price(work, what));
    }

    private void bill(int rule, int user, int what) {
        String words = "bill(" + rule + ", " + user + ", " + what + ")";
        ask(words, h -> h.bill(rule, user, what), slow.bill(rule, user, what));
    }

    private void coins(int rule, int user) {
        ask("coins(" + rule + ", " + user + ")", h -> h.coins(rule, user), slow.coins(rule, user));
    }

    private void leaving(int rule) {
        ask("leaving(" + rule + ")", h -> h.leaving(rule), slow.leaving(rule));
    }

    private void differ(int one, int other) {
        ask("differ(" + one + ", " + other + ")", h -> h.differ(one, other), slow.differ(one, other));
    }

    private void compareAll() {
        askWorks();
        askUsers();
        askLines();
        for (int start = 0; start < questions.size(); start += ASKED_AT_ONCE) {
            BillHouse again = new BillHouse();
            done.forEach(call -> call.making.applyAsLong(again));
            int end = Math.min(start + ASKED_AT_ONCE, questions.size());
            questions.subList(start, end).forEach(question -> question.check(again));
        }
        questions.clear();
    }

    private void askWorks() {
        ask("needed()", BillHouse::needed, slow.needed());
        ask("idle()", BillHouse::idle, slow.idle());
        for (int number = -1; number < 7; number++) {
            int work = number;
            ask("total(" + work + ")", h -> h.total(work), slow.total(work));
            price(work, 0);
            price(work, 1);
        }
        for (int bits = -1; bits < 257; bits++) {
            int set = bits;
            ask("cost(" + set + ")", h -> h.cost(set), slow.cost(set));
        }
    }

    private void askUsers() {
        for (int rule = 0; rule < 3; rule++) {
            leaving(rule);
            differ(rule, (rule + 1) % 3);
            for (int user = 0; user < mostUsers; user++) {
                bill(rule, user, 0);
                bill(rule, user, 1);
                coins(rule, user);
            }
        }
        for (int number = -1; number < 9; number++) {
            int user = number;
            ask("saved(" + user + ")", h -> h.saved(user), slow.saved(user));
            ask("booked(" + user + ")", h -> h.booked(user), slow.booked(user));
        }
    }

    private void askLines() {
        for (int number = -1; number < 8; number++) {
            int what = number;
            ask("count(" + what + ")", h -> h.count(what), slow.count(what));
        }
        for (int number = -1; number < slow.count(3) + 1; number++) {
            int i = number;
            for (int part = -1; part < 4; part++) {
                int what = part;
                ask("line(" + i + ", " + what + ")", h -> h.line(i, what), slow.line(i, what));
            }
        }
    }
}
