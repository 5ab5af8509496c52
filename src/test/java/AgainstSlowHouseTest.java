/** Runs of calls that are drawn the same way each time, on BillHouse and on SlowHouse beside it. */
public final class AgainstSlowHouseTest {
    private static final int RUNS = 160;
    private static final int CALLS = 400;
    private static final int[] WRONG = {Integer.MIN_VALUE, -1, 3, 6, 8, 10, 31, 32, 101, 10001, Integer.MAX_VALUE};

    private long state;
    private final BillHouse house = new BillHouse();
    private final SlowHouse slow = new SlowHouse();
    private final StringBuilder told = new StringBuilder();
    private final int mostUsers;
    private final int leastUnits;

    private AgainstSlowHouseTest(int run) {
        state = run * 7919L + 17;
        // All orders of eight users are slow to walk one by one, so few runs have so many.
        mostUsers = run % 20 == 0 ? 8 : 1 + run % 5;
        // Some runs stay at great units, where the numbers of the prices are greatest.
        leastUnits = run % 4 == 0 ? 7 : 0;
    }

    public static void main(String[] args) {
        for (int run = 0; run < RUNS && Due.wrong() == 0; run++) {
            new AgainstSlowHouseTest(run).go(run);
        }
        Due.end();
    }

    private void go(int run) {
        int calls = mostUsers == 8 ? CALLS / 4 : CALLS;
        start();
        for (int i = 0; i < calls && Due.wrong() == 0; i++) {
            step();
            if (i % 50 == 49) {
                compareAll();
            }
        }
        if (Due.wrong() != 0) {
            System.out.println("run " + run + ": " + told);
        }
    }

    private int draw(int bound) {
        state = state * 6364136223846793005L + 1442695040888963407L;
        return (int) ((state >>> 33) % bound);
    }

    /** Mostly below a bound, at times far out of it. */
    private int pick(int bound) {
        return draw(25) == 0 ? WRONG[draw(WRONG.length)] : draw(bound);
    }

    private int units() {
        return draw(3) == 0 ? pick(10) : leastUnits + draw(10 - leastUnits);
    }

    private int fixed() {
        return draw(3) == 0 ? 0 : draw(2) == 0 ? pick(30) : pick(10001);
    }

    private int stepPrice() {
        return draw(3) == 0 ? 0 : pick(101);
    }

    private void same(String call, long got, long want) {
        told.append(call).append(' ');
        Due.is(call, got, want);
    }

    private void same(String call, boolean got, boolean want) {
        same(call, got ? 1 : 0, want ? 1 : 0);
    }

    private void start() {
        int works = draw(7);
        for (int i = 0; i < works; i++) {
            work();
        }
        for (int i = 0; i < mostUsers; i++) {
            same("user()", house.user(), slow.user());
        }
        for (int i = 0; i < works * (works + mostUsers) / 2; i++) {
            if (draw(2) == 0) {
                use();
            } else {
                feed();
            }
        }
    }

    private void work() {
        int fixed = fixed();
        int step = stepPrice();
        same("work(" + fixed + ", " + step + ")", house.work(fixed, step), slow.work(fixed, step));
    }

    private void change() {
        int work = pick(6);
        int fixed = fixed();
        int step = stepPrice();
        String call = "change(" + work + ", " + fixed + ", " + step + ")";
        same(call, house.change(work, fixed, step), slow.change(work, fixed, step));
    }

    private void use() {
        int work = pick(6);
        int user = pick(mostUsers);
        int units = units();
        String call = "use(" + work + ", " + user + ", " + units + ")";
        same(call, house.use(work, user, units), slow.use(work, user, units));
    }

    private void feed() {
        int work = pick(6);
        int by = pick(6);
        int units = units();
        String call = "feed(" + work + ", " + by + ", " + units + ")";
        same(call, house.feed(work, by, units), slow.feed(work, by, units));
    }

    private void set() {
        int user = pick(mostUsers);
        boolean there = draw(3) != 0;
        same("set(" + user + ", " + there + ")", house.set(user, there), slow.set(user, there));
    }

    private void mark() {
        int user = pick(mostUsers);
        int coins = draw(4) == 0 ? draw(30001) - 15000 : draw(41) - 20;
        same("mark(" + user + ", " + coins + ")", house.mark(user, coins), slow.mark(user, coins));
    }

    private void book() {
        int rule = pick(3);
        same("book(" + rule + ")", house.book(rule), slow.book(rule));
    }

    private void step() {
        switch (draw(16)) {
            case 0 -> work();
            case 1 -> change();
            case 2, 3 -> use();
            case 4, 5 -> feed();
            case 6 -> set();
            case 7 -> mark();
            case 8, 9, 10 -> book();
            case 11 -> price(pick(6), pick(2));
            case 12 -> bill(pick(3), pick(mostUsers), pick(2));
            case 13 -> coins(pick(3), pick(mostUsers));
            case 14 -> leaving(pick(3));
            default -> differ(pick(3), pick(3));
        }
    }

    private void price(int work, int what) {
        same("price(" + work + ", " + what + ")", house.price(work, what), slow.price(work, what));
    }

    private void bill(int rule, int user, int what) {
        String call = "bill(" + rule + ", " + user + ", " + what + ")";
        same(call, house.bill(rule, user, what), slow.bill(rule, user, what));
    }

    private void coins(int rule, int user) {
        same("coins(" + rule + ", " + user + ")", house.coins(rule, user), slow.coins(rule, user));
    }

    private void leaving(int rule) {
        same("leaving(" + rule + ")", house.leaving(rule), slow.leaving(rule));
    }

    private void differ(int one, int other) {
        same("differ(" + one + ", " + other + ")", house.differ(one, other), slow.differ(one, other));
    }

    private void compareAll() {
        same("needed()", house.needed(), slow.needed());
        same("idle()", house.idle(), slow.idle());
        for (int work = -1; work < 7; work++) {
            same("total(" + work + ")", house.total(work), slow.total(work));
            price(work, 0);
            price(work, 1);
        }
        for (int set = -1; set < 257; set++) {
            same("cost(" + set + ")", house.cost(set), slow.cost(set));
        }
        for (int rule = 0; rule < 3; rule++) {
            leaving(rule);
            for (int user = 0; user < mostUsers; user++) {
                bill(rule, user, 0);
                bill(rule, user, 1);
                coins(rule, user);
            }
        }
        for (int user = -1; user < 9; user++) {
            same("saved(" + user + ")", house.saved(user), slow.saved(user));
            same("booked(" + user + ")", house.booked(user), slow.booked(user));
        }
        for (int what = -1; what < 8; what++) {
            same("count(" + what + ")", house.count(what), slow.count(what));
        }
        for (int i = -1; i < slow.count(3) + 1; i++) {
            for (int what = -1; what < 4; what++) {
                same("line(" + i + ", " + what + ")", house.line(i, what), slow.line(i, what));
            }
        }
    }
}
