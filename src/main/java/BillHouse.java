import java.util.Arrays;

/** Parts the costs of common works among their users; ../shared/DOC.md says what each call answers. */
public final class BillHouse {
    public static final int NONE = -1;
    public static final long UNTOLD = -1000000000000L;

    private static final int MAX_WORKS = 6;
    private static final int MAX_USERS = 8;
    private static final int MAX_FIXED = 10000;
    private static final int MAX_STEP = 100;
    private static final int MAX_UNITS = 9;
    private static final int MAX_MARKED = 10000;
    private static final int MAX_LINES = 400;
    private static final int TEN = 10;

    private static final int NOT_MARKED = -20000;
    private static final int NO_COINS = -1000000;

    private static final int BY_USE = 0;
    private static final int ALONE = 1;
    private static final int BY_ORDERS = 2;

    private static final int NUMERATOR = 0;
    private static final int DENOMINATOR = 1;

    private static final long[] FACTORIALS = {1, 1, 2, 6, 24, 120, 720, 5040, 40320};

    private final Works works;
    private final Users users;
    private final Prices prices;
    private final Shares shares;
    private final Ledger ledger;
    private final int[] coinRow;
    private final int[] otherCoinRow;

    public BillHouse() {
        works = new Works();
        users = new Users();
        prices = new Prices();
        shares = new Shares();
        ledger = new Ledger();
        coinRow = new int[MAX_USERS];
        otherCoinRow = new int[MAX_USERS];
    }

    public int work(int fixed, int step) {
        if (works.made >= MAX_WORKS || !areCosts(fixed, step)) {
            return NONE;
        }
        return works.add(fixed, step);
    }

    public int user() {
        if (users.made >= MAX_USERS) {
            return NONE;
        }
        return users.add();
    }

    public boolean change(int work, int fixed, int step) {
        if (!works.has(work) || !areCosts(fixed, step)) {
            return false;
        }
        works.putCosts(work, fixed, step);
        return true;
    }

    public boolean use(int work, int user, int units) {
        if (!works.has(work) || !users.has(user) || !areUnits(units)) {
            return false;
        }
        works.putUnitsByUser(work, user, units);
        return true;
    }

    public boolean feed(int work, int by, int units) {
        if (!works.has(work) || !works.has(by) || work == by || !areUnits(units)) {
            return false;
        }
        works.putUnitsByWork(work, by, units);
        return true;
    }

    public boolean set(int user, boolean there) {
        if (!users.has(user) || users.isThere(user) == there) {
            return false;
        }
        users.turn(user);
        return true;
    }

    public int mark(int user, int coins) {
        if (!users.has(user)) {
            return NOT_MARKED;
        }
        // In long, so that no sum wraps around.
        long then = (long) users.marked[user] + coins;
        if (then < -MAX_MARKED || then > MAX_MARKED) {
            return NOT_MARKED;
        }
        users.marked[user] = (int) then;
        return users.marked[user];
    }

    public int needed() {
        return works.neededBy(users.thereSet);
    }

    public int idle() {
        return works.onRings() & ~works.neededBy(users.thereSet);
    }

    public int total(int work) {
        if (!isNeededNow(work)) {
            return NONE;
        }
        return works.unitsOf(work, users.thereSet, works.neededBy(users.thereSet));
    }

    public int cost(int set) {
        if ((set & ~users.all()) != 0) {
            return NONE;
        }
        return works.costOf(set);
    }

    public long price(int work, int what) {
        if (!isNeededNow(work) || !isPart(what)) {
            return UNTOLD;
        }
        prices.solve(works, users.thereSet);
        return partOfFraction(prices.numerators[work], prices.denominator, what);
    }

    public long bill(int rule, int user, int what) {
        if (!isRule(rule) || !users.isThere(user) || !isPart(what)) {
            return UNTOLD;
        }
        shareOut(rule);
        long marked = users.marked[user] * shares.denominator;
        return partOfFraction(shares.numerators[user] + marked, shares.denominator, what);
    }

    public int coins(int rule, int user) {
        if (!isRule(rule) || !users.isThere(user)) {
            return NO_COINS;
        }
        fillCoins(rule, coinRow);
        return coinRow[user];
    }

    public int leaving(int rule) {
        if (!isRule(rule)) {
            return NONE;
        }
        shareOut(rule);
        for (int group = 1; group <= users.thereSet; group++) {
            boolean allThere = (group & ~users.thereSet) == 0;
            if (allThere && shares.numeratorOf(group) > works.costOf(group) * shares.denominator) {
                return group;
            }
        }
        return 0;
    }

    public int saved(int user) {
        if (!users.isThere(user)) {
            return NONE;
        }
        return works.costOf(users.thereSet) - works.costOf(users.thereSet & ~(1 << user));
    }

    public int differ(int one, int other) {
        if (!isRule(one) || !isRule(other)) {
            return NONE;
        }
        fillCoins(one, coinRow);
        fillCoins(other, otherCoinRow);
        int sum = 0;
        for (int user = 0; user < MAX_USERS; user++) {
            sum += Math.abs(coinRow[user] - otherCoinRow[user]);
        }
        return sum;
    }

    public int book(int rule) {
        if (!isRule(rule)) {
            return NONE;
        }
        fillCoins(rule, coinRow);
        int more = ledger.differencesTo(coinRow);
        if (ledger.lines + more > MAX_LINES) {
            return NONE;
        }
        ledger.enter(coinRow);
        return more;
    }

    public int booked(int user) {
        return users.has(user) ? ledger.coinsSoFar[user] : 0;
    }

    public int line(int i, int what) {
        if (i < 0 || i >= ledger.lines) {
            return NO_COINS;
        }
        switch (what) {
            case 0:
                return ledger.lineBookings[i];
            case 1:
                return ledger.lineUsers[i];
            case 2:
                return ledger.lineCoins[i];
            default:
                return NO_COINS;
        }
    }

    public int count(int what) {
        switch (what) {
            case 0:
                return works.made;
            case 1:
                return users.made;
            case 2:
                return Integer.bitCount(users.thereSet);
            case 3:
                return ledger.lines;
            case 4:
                return ledger.bookings;
            case 5:
                return users.markedOfThoseThere();
            case 6:
                return ledger.coinsInAll();
            default:
                return NO_COINS;
        }
    }

    private static boolean areCosts(int fixed, int step) {
        return fixed >= 0 && fixed <= MAX_FIXED && step >= 0 && step <= MAX_STEP;
    }

    private static boolean areUnits(int units) {
        return units >= 0 && units <= MAX_UNITS;
    }

    private static boolean isRule(int rule) {
        return rule >= BY_USE && rule <= BY_ORDERS;
    }

    private static boolean isPart(int what) {
        return what == NUMERATOR || what == DENOMINATOR;
    }

    private static boolean isIn(int set, int number) {
        return (set >> number & 1) != 0;
    }

    private boolean isNeededNow(int work) {
        return works.has(work) && isIn(works.neededBy(users.thereSet), work);
    }

    private void shareOut(int rule) {
        if (rule == BY_USE) {
            prices.solve(works, users.thereSet);
            shares.partByUse(works, prices, users.thereSet);
        } else if (rule == ALONE) {
            shares.partByAlone(works, users.thereSet);
        } else {
            shares.partByOrders(works, users.thereSet);
        }
    }

    private void fillCoins(int rule, int[] row) {
        shareOut(rule);
        shares.cutInto(row, works.costOf(users.thereSet), users.thereSet);
        for (int user = 0; user < MAX_USERS; user++) {
            if (users.isThere(user)) {
                row[user] += users.marked[user];
            }
        }
    }

    private static long partOfFraction(long numerator, long denominator, int what) {
        long divisor = commonDivisor(Math.abs(numerator), denominator);
        if (divisor == 0) {
            return UNTOLD;
        }
        return (what == NUMERATOR ? numerator : denominator) / divisor;
    }

    private static long commonDivisor(long one, long other) {
        // Two longs need fewer than a hundred rounds.
        for (int round = 0; round < 100 && other != 0; round++) {
            long rest = one % other;
            one = other;
            other = rest;
        }
        return one;
    }

    /** The works, who uses them, and what sets of users cost. */
    private static final class Works {
        private int made;
        private final int[] fixedCosts = new int[MAX_WORKS];
        private final int[] stepPrices = new int[MAX_WORKS];
        private final int[][] unitsByUser = new int[MAX_WORKS][MAX_USERS];
        private final int[][] unitsByWork = new int[MAX_WORKS][MAX_WORKS];
        private final int[] needsOfUser = new int[MAX_USERS];
        // ORDERS asks for each set many times, so a set's cost is kept until works or uses change.
        private final int[] knownCosts = new int[1 << MAX_USERS];

        private Works() {
            Arrays.fill(knownCosts, NONE);
        }

        private boolean has(int number) {
            return number >= 0 && number < made;
        }

        private int add(int fixed, int step) {
            int number = made;
            made++;
            putCosts(number, fixed, step);
            return number;
        }

        private void putCosts(int number, int fixed, int step) {
            fixedCosts[number] = fixed;
            stepPrices[number] = step;
            Arrays.fill(knownCosts, NONE);
        }

        private void putUnitsByUser(int number, int user, int units) {
            unitsByUser[number][user] = units;
            learnNeeds();
        }

        private void putUnitsByWork(int number, int by, int units) {
            unitsByWork[number][by] = units;
            learnNeeds();
        }

        private void learnNeeds() {
            for (int user = 0; user < MAX_USERS; user++) {
                needsOfUser[user] = withAllTheyUse(usedBy(user, unitsByUser));
            }
            Arrays.fill(knownCosts, NONE);
        }

        private int usedBy(int one, int[][] units) {
            int found = 0;
            for (int number = 0; number < made; number++) {
                if (units[number][one] > 0) {
                    found |= 1 << number;
                }
            }
            return found;
        }

        private int withAllTheyUse(int start) {
            int found = start;
            // The longest way from work to work has fewer steps than there are works.
            for (int round = 1; round < made; round++) {
                for (int by = 0; by < made; by++) {
                    if (isIn(found, by)) {
                        found |= usedBy(by, unitsByWork);
                    }
                }
            }
            return found;
        }

        private int neededBy(int group) {
            int found = 0;
            for (int user = 0; user < MAX_USERS; user++) {
                if (isIn(group, user)) {
                    found |= needsOfUser[user];
                }
            }
            return found;
        }

        private int onRings() {
            int found = 0;
            for (int number = 0; number < made; number++) {
                if (isIn(withAllTheyUse(usedBy(number, unitsByWork)), number)) {
                    found |= 1 << number;
                }
            }
            return found;
        }

        private int unitsOf(int number, int group, int neededOnes) {
            int units = 0;
            for (int user = 0; user < MAX_USERS; user++) {
                if (isIn(group, user)) {
                    units += unitsByUser[number][user];
                }
            }
            for (int by = 0; by < made; by++) {
                if (isIn(neededOnes, by)) {
                    units += unitsByWork[number][by];
                }
            }
            return units;
        }

        private int costAt(int number, int units) {
            int tensBegun = (units + TEN - 1) / TEN;
            return fixedCosts[number] + stepPrices[number] * tensBegun;
        }

        private int costOf(int group) {
            if (knownCosts[group] != NONE) {
                return knownCosts[group];
            }
            int neededOnes = neededBy(group);
            int sum = 0;
            for (int number = 0; number < made; number++) {
                if (isIn(neededOnes, number)) {
                    sum += costAt(number, unitsOf(number, group, neededOnes));
                }
            }
            knownCosts[group] = sum;
            return sum;
        }
    }

    /** The users, which of them are there, and their marked coins. */
    private static final class Users {
        private int made;
        private int thereSet;
        private final int[] marked = new int[MAX_USERS];

        private boolean has(int number) {
            return number >= 0 && number < made;
        }

        private boolean isThere(int number) {
            return has(number) && isIn(thereSet, number);
        }

        private int add() {
            int number = made;
            made++;
            turn(number);
            return number;
        }

        private void turn(int number) {
            thereSet ^= 1 << number;
        }

        private int all() {
            return (1 << made) - 1;
        }

        private int markedOfThoseThere() {
            int sum = 0;
            for (int number = 0; number < made; number++) {
                if (isThere(number)) {
                    sum += marked[number];
                }
            }
            return sum;
        }
    }

    /**
     * The prices of the needed works, over one denominator, by Cramer's rule. Elimination would need
     * products beyond long; here the denominator is at most 117^6 (a total has at most 117 units) and
     * a numerator at most 67,200 * 117^5.
     */
    private static final class Prices {
        private final long[] numerators = new long[MAX_WORKS];
        private long denominator = 1;
        private final long[][] factors = new long[MAX_WORKS][MAX_WORKS];
        private final long[] costs = new long[MAX_WORKS];
        private final long[] minors = new long[1 << MAX_WORKS];

        private void solve(Works works, int group) {
            int neededOnes = works.neededBy(group);
            for (int row = 0; row < MAX_WORKS; row++) {
                if (isIn(neededOnes, row)) {
                    fillRow(works, row, works.unitsOf(row, group, neededOnes));
                } else {
                    fillIdleRow(row);
                }
            }
            denominator = determinant(NONE);
            for (int column = 0; column < MAX_WORKS; column++) {
                numerators[column] = determinant(column);
            }
        }

        private void fillRow(Works works, int row, int units) {
            // What a needed work uses is needed too, so no column stands for a work that is not.
            for (int column = 0; column < MAX_WORKS; column++) {
                factors[row][column] = -works.unitsByWork[column][row];
            }
            factors[row][row] = units;
            costs[row] = works.costAt(row, units);
        }

        /** A work that is not needed gets the price 0 and leaves the determinant as it is. */
        private void fillIdleRow(int row) {
            Arrays.fill(factors[row], 0);
            factors[row][row] = 1;
            costs[row] = 0;
        }

        /** The determinant of the factors with the costs in place of one column (NONE: of none). */
        private long determinant(int replaced) {
            minors[0] = 1;
            for (int columns = 1; columns < minors.length; columns++) {
                minors[columns] = minorOf(columns, replaced);
            }
            return minors[minors.length - 1];
        }

        /** Of the first rows and as many columns, by the last of those rows. */
        private long minorOf(int columns, int replaced) {
            int row = Integer.bitCount(columns) - 1;
            long sum = 0;
            for (int column = 0; column < MAX_WORKS; column++) {
                if (isIn(columns, column)) {
                    long factor = column == replaced ? costs[row] : factors[row][column];
                    long part = factor * minors[columns & ~(1 << column)];
                    boolean isOdd = (Integer.bitCount(columns >> (column + 1)) & 1) != 0;
                    sum += isOdd ? -part : part;
                }
            }
            return sum;
        }
    }

    /** The bills of those there without what is marked, over one denominator. */
    private static final class Shares {
        private final long[] numerators = new long[MAX_USERS];
        private long denominator = 1;
        private final long[] rests = new long[MAX_USERS];

        private void partByUse(Works works, Prices prices, int thereSet) {
            denominator = prices.denominator;
            for (int user = 0; user < MAX_USERS; user++) {
                long sum = 0;
                // A work that is not needed has the price 0.
                for (int number = 0; number < MAX_WORKS; number++) {
                    sum += works.unitsByUser[number][user] * prices.numerators[number];
                }
                numerators[user] = isIn(thereSet, user) ? sum : 0;
            }
        }

        private void partByAlone(Works works, int thereSet) {
            long together = works.costOf(thereSet);
            long sum = 0;
            for (int user = 0; user < MAX_USERS; user++) {
                long alone = isIn(thereSet, user) ? works.costOf(1 << user) : 0;
                sum += alone;
                numerators[user] = together * alone;
            }
            // With nothing to part all numerators are 0, and any denominator will do.
            denominator = sum == 0 ? 1 : sum;
        }

        /** Each set of those who came before stands for all orders of them and of those who come after. */
        private void partByOrders(Works works, int thereSet) {
            int there = Integer.bitCount(thereSet);
            denominator = factorial(there);
            Arrays.fill(numerators, 0);
            for (int before = 0; before < thereSet; before++) {
                if ((before & ~thereSet) != 0) {
                    continue;
                }
                int came = Integer.bitCount(before);
                long orders = factorial(came) * factorial(there - came - 1);
                for (int user = 0; user < MAX_USERS; user++) {
                    if (isIn(thereSet & ~before, user)) {
                        int growth = works.costOf(before | 1 << user) - works.costOf(before);
                        numerators[user] += orders * growth;
                    }
                }
            }
        }

        private static long factorial(int n) {
            return n >= 0 && n < FACTORIALS.length ? FACTORIALS[n] : 1;
        }

        private long numeratorOf(int group) {
            long sum = 0;
            for (int user = 0; user < MAX_USERS; user++) {
                if (isIn(group, user)) {
                    sum += numerators[user];
                }
            }
            return sum;
        }

        private void cutInto(int[] row, int together, int thereSet) {
            if (denominator <= 0) {
                return;
            }
            int left = together;
            for (int user = 0; user < MAX_USERS; user++) {
                row[user] = (int) (numerators[user] / denominator);
                rests[user] = isIn(thereSet, user) ? numerators[user] % denominator : NONE;
                left -= row[user];
            }
            for (int given = 0; given < MAX_USERS && given < left; given++) {
                int next = greatestRest();
                row[next]++;
                rests[next] = NONE;
            }
        }

        private int greatestRest() {
            int best = 0;
            for (int user = 1; user < MAX_USERS; user++) {
                if (rests[user] > rests[best]) {
                    best = user;
                }
            }
            return best;
        }
    }

    /** What was booked so far, and the lines that the bookings made. */
    private static final class Ledger {
        private int bookings;
        private int lines;
        private final int[] coinsSoFar = new int[MAX_USERS];
        private final int[] lineBookings = new int[MAX_LINES];
        private final int[] lineUsers = new int[MAX_LINES];
        private final int[] lineCoins = new int[MAX_LINES];

        private int differencesTo(int[] row) {
            int found = 0;
            for (int user = 0; user < MAX_USERS; user++) {
                if (row[user] != coinsSoFar[user]) {
                    found++;
                }
            }
            return found;
        }

        private void enter(int[] row) {
            for (int user = 0; user < MAX_USERS; user++) {
                if (row[user] != coinsSoFar[user] && lines < MAX_LINES) {
                    lineBookings[lines] = bookings;
                    lineUsers[lines] = user;
                    lineCoins[lines] = row[user] - coinsSoFar[user];
                    coinsSoFar[user] = row[user];
                    lines++;
                }
            }
            bookings++;
        }

        private int coinsInAll() {
            int sum = 0;
            for (int user = 0; user < MAX_USERS; user++) {
                sum += coinsSoFar[user];
            }
            return sum;
        }
    }
}
