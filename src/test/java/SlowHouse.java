import java.math.BigInteger;
import java.util.ArrayList;
import java.util.List;
import java.util.Set;
import java.util.TreeSet;

/** The document in the plainest way, beside which BillHouse is run: big fractions, all orders one by one. */
final class SlowHouse {
    static final long UNTOLD = -1000000000000L;

    /** A fraction in lowest terms. */
    record Part(BigInteger top, BigInteger bottom) implements Comparable<Part> {
        static final Part ZERO = of(0);

        static Part of(long whole) {
            return new Part(BigInteger.valueOf(whole), BigInteger.ONE);
        }

        static Part lowest(BigInteger top, BigInteger bottom) {
            BigInteger shared = top.gcd(bottom).multiply(BigInteger.valueOf(bottom.signum()));
            return new Part(top.divide(shared), bottom.divide(shared));
        }

        Part plus(Part o) {
            return lowest(top.multiply(o.bottom).add(o.top.multiply(bottom)), bottom.multiply(o.bottom));
        }

        Part times(Part o) {
            return lowest(top.multiply(o.top), bottom.multiply(o.bottom));
        }

        Part minus(Part o) {
            return plus(o.times(of(-1)));
        }

        Part by(Part o) {
            return lowest(top.multiply(o.bottom), bottom.multiply(o.top));
        }

        @Override
        public int compareTo(Part o) {
            return minus(o).top.signum();
        }

        long cut() {
            BigInteger[] both = top.divideAndRemainder(bottom);
            return (both[1].signum() < 0 ? both[0].subtract(BigInteger.ONE) : both[0]).longValueExact();
        }

        long told(int what) {
            return (what == 0 ? top : bottom).longValueExact();
        }
    }

    private static final class Work {
        int fixed;
        int step;
        final int[] byUser = new int[8];
        final int[] byWork = new int[6];
    }

    private static final class User {
        boolean there = true;
        int marked;
        int booked;
    }

    private final List<Work> works = new ArrayList<>();
    private final List<User> users = new ArrayList<>();
    private final List<int[]> lines = new ArrayList<>();
    private int bookings;

    int work(int fixed, int step) {
        if (works.size() == 6 || !within(fixed, 0, 10000) || !within(step, 0, 100)) {
            return -1;
        }
        Work made = new Work();
        made.fixed = fixed;
        made.step = step;
        works.add(made);
        return works.size() - 1;
    }

    int user() {
        if (users.size() == 8) {
            return -1;
        }
        users.add(new User());
        return users.size() - 1;
    }

    boolean change(int work, int fixed, int step) {
        if (!isWork(work) || !within(fixed, 0, 10000) || !within(step, 0, 100)) {
            return false;
        }
        works.get(work).fixed = fixed;
        works.get(work).step = step;
        return true;
    }

    boolean use(int work, int user, int units) {
        if (!isWork(work) || !isUser(user) || !within(units, 0, 9)) {
            return false;
        }
        works.get(work).byUser[user] = units;
        return true;
    }

    boolean feed(int work, int by, int units) {
        if (!isWork(work) || !isWork(by) || !within(units, 0, 9) || work == by) {
            return false;
        }
        works.get(work).byWork[by] = units;
        return true;
    }

    boolean set(int user, boolean there) {
        if (!isUser(user) || users.get(user).there == there) {
            return false;
        }
        users.get(user).there = there;
        return true;
    }

    int mark(int user, int coins) {
        if (!isUser(user) || !within((long) users.get(user).marked + coins, -10000, 10000)) {
            return -20000;
        }
        users.get(user).marked += coins;
        return users.get(user).marked;
    }

    int needed() {
        return bits(neededBy(there()));
    }

    int idle() {
        Set<Integer> found = new TreeSet<>();
        for (int work = 0; work < works.size(); work++) {
            if (!neededBy(there()).contains(work) && leadsBack(work)) {
                found.add(work);
            }
        }
        return bits(found);
    }

    int total(int work) {
        return neededBy(there()).contains(work) ? totalOf(work, there()) : -1;
    }

    int cost(int set) {
        Set<Integer> group = new TreeSet<>();
        for (int bit = 0; bit < 32; bit++) {
            if ((set >>> bit & 1) == 1) {
                if (!isUser(bit)) {
                    return -1;
                }
                group.add(bit);
            }
        }
        return costOf(group);
    }

    long price(int work, int what) {
        if (!neededBy(there()).contains(work) || !within(what, 0, 1)) {
            return UNTOLD;
        }
        return prices()[work].told(what);
    }

    long bill(int rule, int user, int what) {
        if (!within(rule, 0, 2) || !there().contains(user) || !within(what, 0, 1)) {
            return UNTOLD;
        }
        return bills(rule)[user].plus(Part.of(users.get(user).marked)).told(what);
    }

    int coins(int rule, int user) {
        if (!within(rule, 0, 2) || !there().contains(user)) {
            return -1000000;
        }
        return allCoins(rule)[user];
    }

    int leaving(int rule) {
        if (!within(rule, 0, 2)) {
            return -1;
        }
        Part[] bills = bills(rule);
        for (int set = 1; set < 256; set++) {
            Set<Integer> group = new TreeSet<>();
            Part sum = Part.ZERO;
            for (int user = 0; user < 8; user++) {
                if ((set & 1 << user) != 0) {
                    group.add(user);
                }
            }
            if (!there().containsAll(group)) {
                continue;
            }
            for (int user : group) {
                sum = sum.plus(bills[user]);
            }
            if (sum.compareTo(Part.of(costOf(group))) > 0) {
                return set;
            }
        }
        return 0;
    }

    int saved(int user) {
        if (!there().contains(user)) {
            return -1;
        }
        Set<Integer> without = there();
        without.remove(user);
        return costOf(there()) - costOf(without);
    }

    int differ(int one, int other) {
        if (!within(one, 0, 2) || !within(other, 0, 2)) {
            return -1;
        }
        int sum = 0;
        for (int user : there()) {
            sum += Math.abs(coins(one, user) - coins(other, user));
        }
        return sum;
    }

    int book(int rule) {
        if (!within(rule, 0, 2)) {
            return -1;
        }
        int[] coins = allCoins(rule);
        List<int[]> more = new ArrayList<>();
        for (int user = 0; user < users.size(); user++) {
            int difference = coins[user] - users.get(user).booked;
            if (difference != 0) {
                more.add(new int[] {bookings, user, difference});
            }
        }
        if (lines.size() + more.size() > 400) {
            return -1;
        }
        for (int[] line : more) {
            users.get(line[1]).booked += line[2];
        }
        lines.addAll(more);
        bookings++;
        return more.size();
    }

    int booked(int user) {
        return isUser(user) ? users.get(user).booked : 0;
    }

    int line(int i, int what) {
        return within(i, 0, lines.size() - 1) && within(what, 0, 2) ? lines.get(i)[what] : -1000000;
    }

    int count(int what) {
        return switch (what) {
            case 0 -> works.size();
            case 1 -> users.size();
            case 2 -> there().size();
            case 3 -> lines.size();
            case 4 -> bookings;
            case 5 -> there().stream().mapToInt(user -> users.get(user).marked).sum();
            case 6 -> users.stream().mapToInt(user -> user.booked).sum();
            default -> -1000000;
        };
    }

    private static boolean within(long number, long least, long greatest) {
        return least <= number && number <= greatest;
    }

    private boolean isWork(int work) {
        return within(work, 0, works.size() - 1);
    }

    private boolean isUser(int user) {
        return within(user, 0, users.size() - 1);
    }

    private static int bits(Set<Integer> numbers) {
        return numbers.stream().mapToInt(number -> 1 << number).sum();
    }

    private Set<Integer> there() {
        Set<Integer> found = new TreeSet<>();
        for (int user = 0; user < users.size(); user++) {
            if (users.get(user).there) {
                found.add(user);
            }
        }
        return found;
    }

    private Set<Integer> neededBy(Set<Integer> group) {
        Set<Integer> found = new TreeSet<>();
        for (int work = 0; work < works.size(); work++) {
            for (int user : group) {
                if (works.get(work).byUser[user] > 0) {
                    addWithUsed(work, found);
                }
            }
        }
        return found;
    }

    private void addWithUsed(int by, Set<Integer> found) {
        if (found.add(by)) {
            for (int work = 0; work < works.size(); work++) {
                if (works.get(work).byWork[by] > 0) {
                    addWithUsed(work, found);
                }
            }
        }
    }

    private boolean leadsBack(int start) {
        Set<Integer> found = new TreeSet<>();
        for (int work = 0; work < works.size(); work++) {
            if (works.get(work).byWork[start] > 0) {
                addWithUsed(work, found);
            }
        }
        return found.contains(start);
    }

    private int totalOf(int work, Set<Integer> group) {
        int sum = 0;
        for (int user : group) {
            sum += works.get(work).byUser[user];
        }
        for (int by : neededBy(group)) {
            sum += works.get(work).byWork[by];
        }
        return sum;
    }

    private int costOfWork(int work, Set<Integer> group) {
        int cost = works.get(work).fixed;
        for (int units = totalOf(work, group); units > 0; units -= 10) {
            cost += works.get(work).step;
        }
        return cost;
    }

    private int costOf(Set<Integer> group) {
        int sum = 0;
        for (int work : neededBy(group)) {
            sum += costOfWork(work, group);
        }
        return sum;
    }

    /** By elimination over the needed works alone; null for the others. */
    private Part[] prices() {
        List<Integer> needed = new ArrayList<>(neededBy(there()));
        int n = needed.size();
        Part[][] rows = new Part[n][n + 1];
        for (int i = 0; i < n; i++) {
            int work = needed.get(i);
            for (int j = 0; j < n; j++) {
                int units = works.get(needed.get(j)).byWork[work];
                rows[i][j] = Part.of(i == j ? totalOf(work, there()) : -units);
            }
            rows[i][n] = Part.of(costOfWork(work, there()));
        }
        for (int i = 0; i < n; i++) {
            eliminate(rows, i);
        }
        Part[] prices = new Part[6];
        for (int i = 0; i < n; i++) {
            prices[needed.get(i)] = rows[i][n];
        }
        return prices;
    }

    private static void eliminate(Part[][] rows, int pivot) {
        int from = pivot;
        while (rows[from][pivot].equals(Part.ZERO)) {
            from++;
        }
        Part[] row = rows[from];
        rows[from] = rows[pivot];
        rows[pivot] = row;
        Part head = row[pivot];
        for (int column = 0; column < row.length; column++) {
            row[column] = row[column].by(head);
        }
        for (int other = 0; other < rows.length; other++) {
            Part factor = rows[other][pivot];
            for (int column = 0; other != pivot && column < row.length; column++) {
                rows[other][column] = rows[other][column].minus(factor.times(row[column]));
            }
        }
    }

    /** Without what is marked; 0 of those who are not there. */
    private Part[] bills(int rule) {
        Part[] bills = new Part[8];
        java.util.Arrays.fill(bills, Part.ZERO);
        if (rule == 0) {
            Part[] prices = prices();
            for (int user : there()) {
                for (int work : neededBy(there())) {
                    bills[user] = bills[user].plus(Part.of(works.get(work).byUser[user]).times(prices[work]));
                }
            }
        } else if (rule == 1) {
            billAlone(bills);
        } else {
            int[] costs = new int[256];
            for (int set = 0; set < 256; set++) {
                costs[set] = cost(set);
            }
            long[] sums = new long[8];
            long orders = walkOrders(0, bits(there()), costs, sums);
            for (int user : there()) {
                bills[user] = Part.of(sums[user]).by(Part.of(orders));
            }
        }
        return bills;
    }

    private void billAlone(Part[] bills) {
        Part sum = Part.ZERO;
        for (int user : there()) {
            sum = sum.plus(Part.of(costOf(Set.of(user))));
        }
        for (int user : there()) {
            if (!sum.equals(Part.ZERO)) {
                bills[user] = Part.of(costOf(there())).times(Part.of(costOf(Set.of(user)))).by(sum);
            }
        }
    }

    /** Adds up what each one's coming costs in each order that goes on from those who came. */
    private static long walkOrders(int came, int there, int[] costs, long[] sums) {
        if (came == there) {
            return 1;
        }
        long orders = 0;
        for (int user = 0; user < 8; user++) {
            if (((there & ~came) >> user & 1) == 1) {
                int then = came | 1 << user;
                long more = walkOrders(then, there, costs, sums);
                sums[user] += more * (costs[then] - costs[came]);
                orders += more;
            }
        }
        return orders;
    }

    /** With what is marked; 0 of those who are not there. */
    private int[] allCoins(int rule) {
        Part[] bills = bills(rule);
        int[] coins = new int[8];
        long left = costOf(there());
        List<Integer> byRest = new ArrayList<>(there());
        for (int user : there()) {
            coins[user] = (int) bills[user].cut();
            left -= coins[user];
        }
        byRest.sort((one, other) -> rest(bills[other]).compareTo(rest(bills[one])));
        for (int i = 0; i < left; i++) {
            coins[byRest.get(i)]++;
        }
        for (int user : there()) {
            coins[user] += users.get(user).marked;
        }
        return coins;
    }

    private static Part rest(Part bill) {
        return bill.minus(Part.of(bill.cut()));
    }
}
