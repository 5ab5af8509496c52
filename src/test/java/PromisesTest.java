/** Each promise of the document by answers that were worked out by hand. */
public final class PromisesTest {
    private static final int NONE = -1;
    private static final int NO_COINS = -1000000;
    private static final long UNTOLD = -1000000000000L;
    private static final int[] FAR = {Integer.MIN_VALUE, Integer.MIN_VALUE + 1, -1, 8, 31, 32, 33, 64, Integer.MAX_VALUE};

    private PromisesTest() {
    }

    public static void main(String[] args) {
        newObject();
        work();
        user();
        change();
        use();
        feed();
        set();
        mark();
        needed();
        idle();
        total();
        cost();
        costByTens();
        price();
        billByUse();
        billAlone();
        billByOrders();
        billRefused();
        threeRules();
        greatestHouse();
        coins();
        coinsRests();
        leaving();
        saved();
        differ();
        book();
        bookFull();
        booked();
        line();
        count();
        Due.end();
    }

    private static void newObject() {
        BillHouse h = new BillHouse();
        for (int what = 0; what < 7; what++) {
            Due.is("new count " + what, h.count(what), 0);
        }
        Due.is("new needed", h.needed(), 0);
        Due.is("new idle", h.idle(), 0);
        Due.is("new total", h.total(0), NONE);
        Due.is("new cost 0", h.cost(0), 0);
        Due.is("new cost 1", h.cost(1), NONE);
        Due.is("new price", h.price(0, 0), UNTOLD);
        Due.is("new saved", h.saved(0), NONE);
        Due.is("new booked", h.booked(0), 0);
        Due.is("new line", h.line(0, 0), NO_COINS);
        for (int rule = 0; rule < 3; rule++) {
            Due.is("new bill", h.bill(rule, 0, 0), UNTOLD);
            Due.is("new coins", h.coins(rule, 0), NO_COINS);
            Due.is("new leaving", h.leaving(rule), 0);
            Due.is("new differ", h.differ(rule, 0), 0);
            Due.is("new book", h.book(rule), 0);
        }
        Due.is("bookings without lines count", h.count(4), 3);
    }

    private static void work() {
        BillHouse h = new BillHouse();
        Due.is("work fixed -1", h.work(-1, 0), NONE);
        Due.is("work fixed 10001", h.work(10001, 0), NONE);
        Due.is("work step -1", h.work(0, -1), NONE);
        Due.is("work step 101", h.work(0, 101), NONE);
        Due.is("work fixed least int", h.work(Integer.MIN_VALUE, 0), NONE);
        Due.is("work step greatest int", h.work(0, Integer.MAX_VALUE), NONE);
        Due.is("refused ones are none", h.count(0), 0);
        Due.is("work greatest", h.work(10000, 100), 0);
        Due.is("work least", h.work(0, 0), 1);
        for (int number = 2; number < 6; number++) {
            Due.is("work", h.work(number, 1), number);
        }
        Due.is("work 7th", h.work(1, 1), NONE);
        Due.is("six works", h.count(0), 6);
        h.user();
        h.use(0, 0, 1);
        Due.is("bounds are taken as told", h.cost(1), 10100);
    }

    private static void user() {
        BillHouse h = new BillHouse();
        for (int number = 0; number < 8; number++) {
            Due.is("user", h.user(), number);
            Due.is("user is there", h.count(2), number + 1);
        }
        Due.is("user 9th", h.user(), NONE);
        Due.is("eight users", h.count(1), 8);
        h.set(3, false);
        Due.is("user 9th with one away", h.user(), NONE);
        Due.is("no place by going away", h.count(1), 8);
    }

    private static void change() {
        BillHouse h = Houses.oneWork(10, 1, 5);
        Due.is("cost before", h.cost(1), 11);
        Due.is("change", h.change(0, 20, 3), true);
        Due.is("cost after", h.cost(1), 23);
        Due.is("change fixed -1", h.change(0, -1, 3), false);
        Due.is("change fixed 10001", h.change(0, 10001, 3), false);
        Due.is("change step -1", h.change(0, 20, -1), false);
        Due.is("change step 101", h.change(0, 20, 101), false);
        Due.is("change of none", h.change(1, 20, 3), false);
        for (int far : FAR) {
            Due.is("change of none", h.change(far, 20, 3), false);
        }
        Due.is("refused changes nothing", h.cost(1), 23);
        Due.is("change to the same", h.change(0, 20, 3), true);
        Due.is("change to the least", h.change(0, 0, 0), true);
        Due.is("cost least", h.cost(1), 0);
        Due.is("change to the greatest", h.change(0, 10000, 100), true);
        Due.is("cost greatest", h.cost(1), 10100);
    }

    private static void use() {
        BillHouse h = Houses.plain(2, 2);
        Due.is("use", h.use(1, 0, 9), true);
        Due.is("use units -1", h.use(1, 0, -1), false);
        Due.is("use units 10", h.use(1, 0, 10), false);
        Due.is("use of no work", h.use(2, 0, 1), false);
        Due.is("use by no user", h.use(1, 2, 1), false);
        for (int far : FAR) {
            Due.is("use of no work", h.use(far, 0, 1), false);
            Due.is("use by no user", h.use(1, far, 1), false);
        }
        Due.is("refused changes nothing", h.total(1), 9);
        Due.is("use is other, not more", h.use(1, 0, 4), true);
        Due.is("total then", h.total(1), 4);
        Due.is("use 0", h.use(1, 0, 0), true);
        Due.is("not needed then", h.needed(), 0);
        h.set(1, false);
        Due.is("use by one away", h.use(0, 1, 2), true);
        Due.is("not needed yet", h.needed(), 0);
        h.set(1, true);
        Due.is("needed by one who came", h.needed(), 1);
    }

    private static void feed() {
        BillHouse h = Houses.plain(3, 1);
        h.use(0, 0, 1);
        Due.is("feed", h.feed(1, 0, 9), true);
        Due.is("feed total", h.total(1), 9);
        Due.is("feed by itself", h.feed(1, 1, 1), false);
        Due.is("feed by itself 0", h.feed(1, 1, 0), false);
        Due.is("feed units -1", h.feed(1, 0, -1), false);
        Due.is("feed units 10", h.feed(1, 0, 10), false);
        Due.is("feed of none", h.feed(3, 0, 1), false);
        Due.is("feed by none", h.feed(1, 3, 1), false);
        for (int far : FAR) {
            Due.is("feed of none", h.feed(far, 0, 1), false);
            Due.is("feed by none", h.feed(1, far, 1), false);
        }
        Due.is("refused changes nothing", h.total(1), 9);
        Due.is("the fed one is used, not the user", h.needed(), 3);
        Due.is("feed 0", h.feed(1, 0, 0), true);
        Due.is("needed then", h.needed(), 1);
    }

    private static void set() {
        BillHouse h = Houses.plain(0, 3);
        Due.is("set as it is", h.set(1, true), false);
        Due.is("set away", h.set(1, false), true);
        Due.is("two there", h.count(2), 2);
        Due.is("set away again", h.set(1, false), false);
        Due.is("set there", h.set(1, true), true);
        Due.is("three there", h.count(2), 3);
        Due.is("set of none", h.set(3, false), false);
        Due.is("set of none there", h.set(3, true), false);
        for (int far : FAR) {
            Due.is("set of none", h.set(far, false), false);
            Due.is("set of none", h.set(far, true), false);
        }
        Due.is("still three there", h.count(2), 3);
        Due.is("still three users", h.count(1), 3);
    }

    private static void mark() {
        BillHouse h = Houses.plain(0, 2);
        Due.is("mark", h.mark(0, 7), 7);
        Due.is("mark more", h.mark(0, -8), -1);
        Due.is("mark 0", h.mark(0, 0), -1);
        Due.is("mark to the greatest", h.mark(0, 10001), 10000);
        Due.is("mark beyond", h.mark(0, 1), -20000);
        Due.is("mark wraps", h.mark(0, Integer.MAX_VALUE), -20000);
        Due.is("refused changes nothing", h.mark(0, 0), 10000);
        Due.is("mark to the least", h.mark(0, -20000), -10000);
        Due.is("mark below", h.mark(0, -1), -20000);
        Due.is("mark wraps", h.mark(0, Integer.MIN_VALUE), -20000);
        Due.is("refused changes nothing", h.mark(0, 0), -10000);
        Due.is("the other has its own", h.mark(1, 0), 0);
        Due.is("mark of none", h.mark(2, 1), -20000);
        for (int far : FAR) {
            Due.is("mark of none", h.mark(far, 0), -20000);
        }
        h.set(1, false);
        Due.is("mark one away", h.mark(1, 5), 5);
        h.set(1, true);
        Due.is("marked stays", h.coins(0, 1), 5);
    }

    private static void needed() {
        BillHouse h = Houses.plain(6, 2);
        // 5 uses 4 uses 3 .. uses 0: the way from user to work 0 has all works on it.
        for (int work = 0; work < 5; work++) {
            h.feed(work, work + 1, 1);
        }
        Due.is("needed by nobody", h.needed(), 0);
        h.use(5, 0, 1);
        Due.is("needed down the chain", h.needed(), 63);
        h.set(0, false);
        Due.is("needed by one away", h.needed(), 0);
        h.use(2, 1, 1);
        Due.is("needed by the other", h.needed(), 7);
        h.set(0, true);
        Due.is("needed by both", h.needed(), 63);
        h.feed(3, 4, 0);
        Due.is("chain cut", h.needed(), 32 + 16 + 7);

        BillHouse up = Houses.plain(6, 1);
        for (int work = 0; work < 5; work++) {
            up.feed(work + 1, work, 1);
        }
        up.use(0, 0, 1);
        Due.is("needed up the chain", up.needed(), 63);
    }

    private static void idle() {
        BillHouse h = Houses.plain(6, 1);
        h.feed(0, 1, 1);
        Due.is("one way is no ring", h.idle(), 0);
        h.feed(1, 0, 1);
        Due.is("ring of two", h.idle(), 3);
        h.feed(0, 2, 1);
        h.feed(3, 0, 1);
        Due.is("before and after the ring", h.idle(), 3);
        h.use(2, 0, 1);
        Due.is("needed through another", h.idle(), 0);
        Due.is("all needed", h.needed(), 15);
        h.set(0, false);
        Due.is("leads to nobody there", h.idle(), 3);
        h.feed(4, 3, 1);
        h.feed(5, 4, 1);
        h.feed(1, 5, 1);
        // 0 uses 1 and 3, 3 uses 4, 4 uses 5; 1 is used by 0 and 5.
        Due.is("great ring", h.idle(), 1 + 2 + 8 + 16 + 32);
        h.feed(0, 1, 0);
        Due.is("rings are cut", h.idle(), 0);

        BillHouse six = Houses.plain(6, 1);
        for (int work = 0; work < 6; work++) {
            six.feed((work + 1) % 6, work, 9);
        }
        Due.is("ring of six", six.idle(), 63);
        six.use(5, 0, 1);
        Due.is("ring of six needed", six.idle(), 0);
        six.use(5, 0, 0);
        Due.is("ring of six idle again", six.idle(), 63);

        BillHouse two = Houses.plain(4, 1);
        two.feed(0, 1, 1);
        two.feed(1, 0, 1);
        two.feed(2, 3, 1);
        two.feed(3, 2, 1);
        two.use(0, 0, 1);
        Due.is("the other ring", two.idle(), 12);
        two.feed(0, 2, 1);
        Due.is("a ring that uses a needed one is idle", two.idle(), 12);
        two.feed(2, 0, 1);
        Due.is("used by a needed one", two.idle(), 0);
    }

    private static void total() {
        BillHouse h = Houses.plain(3, 3);
        h.use(0, 0, 4);
        h.use(0, 1, 5);
        h.feed(0, 1, 7);
        Due.is("units of a work that is not needed do not count", h.total(0), 9);
        Due.is("total of one not needed", h.total(1), NONE);
        h.use(1, 2, 1);
        Due.is("now they do", h.total(0), 16);
        Due.is("total 1", h.total(1), 1);
        h.set(0, false);
        Due.is("units of one away do not count", h.total(0), 12);
        h.set(2, false);
        Due.is("nor what only it needs", h.total(0), 5);
        Due.is("total of one not needed", h.total(1), NONE);
        Due.is("total of no work", h.total(3), NONE);
        for (int far : FAR) {
            Due.is("total of no work", h.total(far), NONE);
        }
    }

    private static void cost() {
        BillHouse h = Houses.plain(0, 3);
        h.work(100, 0);
        h.work(20, 0);
        h.work(3, 0);
        h.use(0, 0, 1);
        h.use(1, 1, 1);
        h.use(0, 2, 1);
        h.feed(2, 1, 1);
        int[] want = {0, 100, 23, 123, 100, 100, 123, 123};
        for (int set = 0; set < 8; set++) {
            Due.is("cost " + set, h.cost(set), want[set]);
        }
        Due.is("bit of none", h.cost(8), NONE);
        Due.is("bit of none beside others", h.cost(9), NONE);
        Due.is("highest bit", h.cost(Integer.MIN_VALUE), NONE);
        Due.is("all bits", h.cost(-1), NONE);
        Due.is("bit 8", h.cost(256), NONE);
        for (int user = 0; user < 3; user++) {
            h.set(user, false);
        }
        for (int set = 0; set < 8; set++) {
            Due.is("cost of those away " + set, h.cost(set), want[set]);
        }
        h.feed(2, 1, 0);
        Due.is("cost after the feed ended", h.cost(2), 20);
        h.use(2, 0, 1);
        Due.is("cost after another use", h.cost(1), 103);
    }

    private static void costByTens() {
        BillHouse h = Houses.oneWork(5, 7, 1, 9, 1, 9, 0);
        Due.is("1 unit", h.cost(1), 12);
        Due.is("9 units", h.cost(2), 12);
        Due.is("10 units", h.cost(3), 12);
        Due.is("11 units", h.cost(7), 19);
        Due.is("20 units", h.cost(15), 19);
        Due.is("0 units is not needed, not even fixed", h.cost(16), 0);
        h.work(0, 0);
        h.use(1, 4, 1);
        h.feed(0, 1, 1);
        Due.is("by another work", h.cost(16), 12);
        Due.is("21 units", h.cost(31), 26);
    }

    private static void price() {
        BillHouse h = Houses.oneWork(10, 0, 4, 2);
        Due.price(h, 0, 5, 3);
        Due.is("price what 2", h.price(0, 2), UNTOLD);
        Due.is("price what -1", h.price(0, -1), UNTOLD);
        Due.is("price of no work", h.price(1, 0), UNTOLD);
        for (int far : FAR) {
            Due.is("price of no work", h.price(far, 0), UNTOLD);
            Due.is("price what", h.price(0, far), UNTOLD);
        }
        h.change(0, 0, 0);
        Due.price(h, 0, 0, 1);
        h.change(0, 12, 0);
        Due.price(h, 0, 2, 1);
        h.set(1, false);
        Due.price(h, 0, 3, 1);
        h.set(0, false);
        Due.is("price of one not needed", h.price(0, 0), UNTOLD);
        Due.is("price of one not needed", h.price(0, 1), UNTOLD);

        // A ring: 10 p0 = 100 + 5 p1 and 6 p1 = 20 + 2 p0, as 0 uses five of 1 and 1 two of 0.
        BillHouse ring = Houses.plain(0, 2);
        ring.work(100, 0);
        ring.work(20, 0);
        ring.use(0, 0, 8);
        ring.use(1, 1, 1);
        ring.feed(1, 0, 5);
        ring.feed(0, 1, 2);
        Due.price(ring, 0, 14, 1);
        Due.price(ring, 1, 8, 1);
        // A third that uses both but is not needed leaves the prices.
        ring.work(1000, 0);
        ring.feed(0, 2, 9);
        ring.feed(1, 2, 9);
        Due.price(ring, 0, 14, 1);
        Due.price(ring, 1, 8, 1);
        Due.is("third is not needed", ring.price(2, 0), UNTOLD);
    }

    private static void billByUse() {
        BillHouse h = Houses.plain(0, 3);
        h.work(10, 0);
        h.work(7, 0);
        h.use(0, 0, 1);
        h.use(0, 1, 2);
        h.use(1, 1, 2);
        h.use(1, 2, 1);
        Due.bill(h, 0, 0, 10, 3);
        Due.bill(h, 0, 1, 34, 3);
        Due.bill(h, 0, 2, 7, 3);
        h.mark(0, -3);
        Due.bill(h, 0, 0, 1, 3);
        h.mark(0, -1);
        Due.bill(h, 0, 0, -2, 3);
        h.mark(2, 1);
        Due.bill(h, 0, 2, 10, 3);
        h.set(1, false);
        Due.bill(h, 0, 0, 6, 1);
        Due.bill(h, 0, 2, 8, 1);
        h.mark(0, -6);
        Due.bill(h, 0, 0, 0, 1);
        h.use(0, 0, 0);
        Due.bill(h, 0, 0, -10, 1);
    }

    private static void billAlone() {
        BillHouse h = Houses.plain(0, 3);
        h.work(10, 0);
        h.work(20, 0);
        h.use(0, 0, 1);
        h.use(0, 1, 9);
        h.use(1, 1, 1);
        // Alone 10, 30 and 0; together 30.
        Due.bill(h, 1, 0, 15, 2);
        Due.bill(h, 1, 1, 45, 2);
        Due.bill(h, 1, 2, 0, 1);
        h.mark(2, 4);
        h.mark(0, -8);
        Due.bill(h, 1, 2, 4, 1);
        Due.bill(h, 1, 0, -1, 2);
        h.set(1, false);
        Due.bill(h, 1, 0, 2, 1);
        h.change(0, 0, 0);
        Due.bill(h, 1, 0, -8, 1);
        Due.bill(h, 1, 2, 4, 1);
    }

    private static void billByOrders() {
        BillHouse h = Houses.plain(0, 3);
        h.work(6, 0);
        h.work(12, 0);
        h.work(5, 0);
        h.use(0, 0, 1);
        h.use(1, 1, 9);
        h.feed(0, 1, 1);
        h.use(2, 2, 1);
        h.feed(1, 2, 1);
        // Work 0 for three, work 1 for two, work 2 for one.
        Due.bill(h, 2, 0, 2, 1);
        Due.bill(h, 2, 1, 8, 1);
        Due.bill(h, 2, 2, 13, 1);
        h.set(0, false);
        Due.bill(h, 2, 1, 9, 1);
        Due.bill(h, 2, 2, 14, 1);
        h.mark(1, -10);
        Due.bill(h, 2, 1, -1, 1);
        h.set(1, false);
        Due.bill(h, 2, 2, 23, 1);

        // Units 9, 1 and 1 by tens: the last one of three pays the second ten unless it comes second.
        BillHouse tens = Houses.oneWork(0, 6, 9, 1, 1);
        // Orders with user 0 first: 6; second: 0 of 6 (10 units); last: 6 (2 units, then 11).
        Due.bill(tens, 2, 0, 4, 1);
        Due.bill(tens, 2, 1, 4, 1);
        Due.bill(tens, 2, 2, 4, 1);
        BillHouse uneven = Houses.oneWork(0, 6, 9, 2, 1);
        // 0+1: 12, 0+2: 6, 1+2: 6, all: 12. User 2: first 6, after 0: 0, after 1: 0, last: 0.
        Due.bill(uneven, 2, 0, 5, 1);
        Due.bill(uneven, 2, 1, 5, 1);
        Due.bill(uneven, 2, 2, 2, 1);
        uneven.change(0, 1, 0);
        Due.bill(uneven, 2, 1, 1, 3);
    }

    private static void billRefused() {
        BillHouse h = Houses.oneWork(10, 0, 1, 1);
        for (int rule = 0; rule < 3; rule++) {
            Due.bill(h, rule, 0, 5, 1);
            Due.is("bill what 2", h.bill(rule, 0, 2), UNTOLD);
            Due.is("bill of none", h.bill(rule, 2, 0), UNTOLD);
            for (int far : FAR) {
                Due.is("bill of none", h.bill(rule, far, 0), UNTOLD);
                Due.is("bill what", h.bill(rule, 0, far), UNTOLD);
                Due.is("bill rule", h.bill(far, 0, 0), UNTOLD);
            }
        }
        Due.is("bill rule 3", h.bill(3, 0, 0), UNTOLD);
        h.set(0, false);
        for (int rule = 0; rule < 3; rule++) {
            Due.is("bill of one away", h.bill(rule, 0, 0), UNTOLD);
            Due.is("bill of one away", h.bill(rule, 0, 1), UNTOLD);
            Due.bill(h, rule, 1, 10, 1);
        }
    }

    /** One house in which no two rules part alike, and each leaves rests. */
    private static void threeRules() {
        BillHouse h = Houses.plain(0, 3);
        h.work(31, 10);
        h.work(12, 0);
        h.use(0, 0, 8);
        h.use(1, 1, 3);
        h.use(1, 2, 1);
        h.feed(0, 1, 4);
        int[] costs = {0, 41, 53, 63, 53, 63, 53, 63};
        for (int set = 0; set < 8; set++) {
            Due.is("cost " + set, h.cost(set), costs[set]);
        }
        // 12 p0 = 51 and 4 p1 = 12 + 4 p0.
        Due.price(h, 0, 17, 4);
        Due.price(h, 1, 29, 4);
        long[][] tops = {{34, 87, 29}, {123, 159, 159}, {61, 64, 64}};
        long[][] bottoms = {{1, 4, 4}, {7, 7, 7}, {3, 3, 3}};
        int[][] coins = {{34, 22, 7}, {17, 23, 23}, {21, 21, 21}};
        for (int rule = 0; rule < 3; rule++) {
            for (int user = 0; user < 3; user++) {
                Due.bill(h, rule, user, tops[rule][user], bottoms[rule][user]);
            }
            Due.coins(h, rule, coins[rule]);
            Due.is("leaving " + rule, h.leaving(rule), 0);
        }
        Due.is("differ 0 1", h.differ(0, 1), 34);
        Due.is("differ 0 2", h.differ(0, 2), 28);
        Due.is("differ 1 2", h.differ(1, 2), 8);
        for (int rule = 0; rule < 3; rule++) {
            Due.is("book " + rule, h.book(rule), 3);
            for (int user = 0; user < 3; user++) {
                int before = rule == 0 ? 0 : coins[rule - 1][user];
                Due.line(h, 3 * rule + user, rule, user, coins[rule][user] - before);
                Due.is("booked", h.booked(user), coins[rule][user]);
            }
        }
    }

    private static void greatestHouse() {
        BillHouse h = Houses.plain(0, 8);
        for (int work = 0; work < 6; work++) {
            h.work(10000, 100);
        }
        for (int work = 0; work < 6; work++) {
            for (int user = 0; user < 8; user++) {
                h.use(work, user, 9);
            }
            for (int by = 0; by < 6; by++) {
                h.feed(work, by, 9);
            }
        }
        Due.is("greatest total", h.total(5), 117);
        Due.is("greatest cost", h.cost(255), 67200);
        Due.price(h, 3, 1400, 9);
        for (int rule = 0; rule < 3; rule++) {
            Due.bill(h, rule, 7, 8400, 1);
            Due.is("greatest coins", h.coins(rule, 7), 8400);
            Due.is("nobody leaves", h.leaving(rule), 0);
        }
        h.mark(7, 10000);
        Due.bill(h, 0, 7, 18400, 1);
        h.mark(7, -20000);
        Due.bill(h, 0, 7, -1600, 1);
        Due.is("coins below 0", h.coins(2, 7), -1600);
    }

    private static void coins() {
        BillHouse h = Houses.oneWork(10, 0, 1, 2);
        Due.coins(h, 0, 3, 7);
        Due.coins(h, 1, 5, 5);
        Due.coins(h, 2, 5, 5);
        h.mark(0, -4);
        Due.coins(h, 0, -1, 7);
        for (int rule = 0; rule < 3; rule++) {
            Due.is("coins of none", h.coins(rule, 2), NO_COINS);
            for (int far : FAR) {
                Due.is("coins of none", h.coins(rule, far), NO_COINS);
                Due.is("coins rule", h.coins(far, 0), NO_COINS);
            }
        }
        Due.is("coins rule 3", h.coins(3, 0), NO_COINS);
        h.set(0, false);
        for (int rule = 0; rule < 3; rule++) {
            Due.coins(h, rule, NO_COINS, 10);
        }
        h.change(0, 0, 0);
        h.mark(1, 6);
        for (int rule = 0; rule < 3; rule++) {
            Due.coins(h, rule, NO_COINS, 6);
        }
    }

    private static void coinsRests() {
        BillHouse h = Houses.oneWork(10, 0, 1, 1, 1);
        for (int rule = 0; rule < 3; rule++) {
            Due.coins(h, rule, 4, 3, 3);
        }
        h.change(0, 11, 0);
        for (int rule = 0; rule < 3; rule++) {
            Due.coins(h, rule, 4, 4, 3);
        }
        h.change(0, 2, 0);
        for (int rule = 0; rule < 3; rule++) {
            Due.coins(h, rule, 1, 1, 0);
        }
        h.set(0, false);
        h.change(0, 3, 0);
        for (int rule = 0; rule < 3; rule++) {
            Due.coins(h, rule, NO_COINS, 2, 1);
        }
        // By use 1/7, 2/7, 4/7 of 10: 1 3/7, 2 6/7, 5 5/7: two are left.
        BillHouse rests = Houses.oneWork(10, 0, 1, 2, 4);
        Due.coins(rests, 0, 1, 3, 6);
        // What is marked has no part in the rests, whatever its sign.
        rests.mark(1, -9);
        rests.mark(2, 1);
        Due.coins(rests, 0, 1, -6, 7);
        // One who uses nothing has no rest and gets none.
        BillHouse nothing = Houses.oneWork(1, 0, 0, 1, 1);
        for (int rule = 0; rule < 3; rule++) {
            Due.coins(nothing, rule, 0, 1, 0);
        }
    }

    private static void leaving() {
        BillHouse h = Houses.oneWork(0, 10, 1, 9, 1);
        // 20 for 11 units: user 1 pays 180/11, alone 10.
        Due.is("leaving by use", h.leaving(0), 2);
        BillHouse pair = Houses.oneWork(0, 10, 5, 5, 1);
        Due.is("two would leave", pair.leaving(0), 3);
        Due.is("two would leave by alone", pair.leaving(1), 3);
        pair.mark(0, 10000);
        pair.mark(1, -10000);
        Due.is("marked does not count", pair.leaving(0), 3);
        pair.set(2, false);
        for (int rule = 0; rule < 3; rule++) {
            Due.is("nobody leaves", pair.leaving(rule), 0);
        }
        BillHouse highest = Houses.plain(0, 3);
        highest.work(0, 10);
        highest.use(0, 1, 5);
        highest.use(0, 2, 5);
        highest.user();
        highest.use(0, 3, 1);
        highest.set(0, false);
        Due.is("the set is by users", highest.leaving(0), 6);
        // By orders: 9 and 1 and 1 units cost 12 in all, 4 each; 0 and 1 together cost 6.
        BillHouse orders = Houses.oneWork(0, 6, 9, 1, 1);
        Due.is("leaving by orders", orders.leaving(2), 3);
        // As much as its cost is not more.
        BillHouse even = Houses.oneWork(0, 10, 9, 9);
        for (int rule = 0; rule < 3; rule++) {
            Due.is("as much is not more", even.leaving(rule), 0);
        }
        Due.is("leaving rule 3", h.leaving(3), NONE);
        for (int far : FAR) {
            Due.is("leaving rule", h.leaving(far), NONE);
        }
    }

    private static void saved() {
        BillHouse h = Houses.plain(0, 3);
        h.work(10, 0);
        h.work(7, 0);
        h.use(0, 0, 1);
        h.use(0, 1, 1);
        h.use(1, 1, 1);
        Due.is("saved by the first", h.saved(0), 0);
        Due.is("saved by the second", h.saved(1), 7);
        Due.is("saved by the third", h.saved(2), 0);
        h.set(0, false);
        Due.is("saved of one away", h.saved(0), NONE);
        Due.is("saved by the last who uses", h.saved(1), 17);
        Due.is("saved of none", h.saved(3), NONE);
        for (int far : FAR) {
            Due.is("saved of none", h.saved(far), NONE);
        }
    }

    private static void differ() {
        BillHouse h = Houses.oneWork(10, 0, 1, 2, 2);
        // By use 2, 4, 4; alone and by orders 4, 3, 3.
        Due.is("differ 0 1", h.differ(0, 1), 4);
        Due.is("differ 1 0", h.differ(1, 0), 4);
        Due.is("differ 0 2", h.differ(0, 2), 4);
        Due.is("differ 1 2", h.differ(1, 2), 0);
        Due.is("differ 0 0", h.differ(0, 0), 0);
        h.mark(0, 50);
        Due.is("marked is in both", h.differ(0, 1), 4);
        h.set(0, false);
        Due.is("differ without the first", h.differ(0, 1), 0);
        Due.is("differ 0 3", h.differ(0, 3), NONE);
        Due.is("differ 3 0", h.differ(3, 0), NONE);
        for (int far : FAR) {
            Due.is("differ", h.differ(far, 0), NONE);
            Due.is("differ", h.differ(0, far), NONE);
            Due.is("differ", h.differ(far, far), NONE);
        }
    }

    private static void book() {
        BillHouse h = Houses.oneWork(10, 0, 1, 0, 4);
        Due.is("book rule 3", h.book(3), NONE);
        for (int far : FAR) {
            Due.is("book rule", h.book(far), NONE);
        }
        Due.is("refused is no booking", h.count(4), 0);
        Due.is("book", h.book(0), 2);
        Due.is("book again", h.book(0), 0);
        h.set(2, false);
        h.mark(2, 100);
        Due.is("book of one away", h.book(0), 2);
        Due.is("one away has 0, marked or not", h.booked(2), 0);
        Due.is("the first has all", h.booked(0), 10);
        h.set(2, true);
        h.mark(2, -102);
        h.change(0, 3, 0);
        Due.is("book with marked", h.book(2), 2);
        // By orders 1 1/2 each: the first gets the one that is left.
        Due.is("booked", h.booked(0), 2);
        Due.is("booked with marked", h.booked(2), -1);
        Due.is("four bookings", h.count(4), 4);
        Due.is("six lines", h.count(3), 6);
    }

    private static void bookFull() {
        BillHouse h = Houses.oneWork(80, 0, 1, 1, 1, 1, 1, 1, 1, 1);
        for (int round = 0; round < 49; round++) {
            h.change(0, round % 2 == 0 ? 80 : 0, 0);
            Due.is("book eight", h.book(0), 8);
        }
        Due.is("392 lines", h.count(3), 392);
        h.mark(0, 1);
        Due.is("one more", h.book(1), 1);
        h.mark(0, -1);
        h.change(0, 0, 0);
        Due.is("eight would be too many", h.book(0), NONE);
        Due.is("refused makes no line", h.count(3), 393);
        Due.is("refused is no booking", h.count(4), 50);
        Due.is("refused leaves booked", h.booked(0), 11);
        h.change(0, 80, 0);
        h.set(0, false);
        h.change(0, 70, 0);
        Due.is("only the first", h.book(0), 1);
        h.change(0, 77, 0);
        Due.is("seven would be too many", h.book(0), NONE);
        h.change(0, 76, 0);
        Due.is("six are just 400", h.book(0), 6);
        Due.is("400 lines", h.count(3), 400);
        Due.is("none is none too many", h.book(0), 0);
        Due.is("and is a booking", h.count(4), 53);
        h.mark(7, 1);
        Due.is("one too many", h.book(0), NONE);
        Due.is("last line booking", h.line(399, 0), 51);
        Due.is("last line user", h.line(399, 1), 6);
        Due.is("last line coins", h.line(399, 2), 1);
        Due.is("no line 400", h.line(400, 0), NO_COINS);
        Due.is("booked in all", h.count(6), 76);
    }

    private static void booked() {
        BillHouse h = Houses.oneWork(10, 0, 1, 1);
        Due.is("booked at first", h.booked(0), 0);
        h.book(2);
        Due.is("booked", h.booked(0), 5);
        h.change(0, 20, 0);
        Due.is("booked stays", h.booked(0), 5);
        h.set(0, false);
        Due.is("booked of one away", h.booked(0), 5);
        Due.is("booked of none", h.booked(2), 0);
        for (int far : FAR) {
            Due.is("booked of none", h.booked(far), 0);
        }
    }

    private static void line() {
        BillHouse h = Houses.oneWork(10, 0, 1, 0, 1);
        h.book(0);
        h.book(1);
        h.set(0, false);
        h.book(2);
        int[][] want = {{0, 0, 5}, {0, 2, 5}, {2, 0, -5}, {2, 2, 5}};
        for (int i = 0; i < want.length; i++) {
            for (int what = 0; what < 3; what++) {
                Due.is("line " + i + " " + what, h.line(i, what), want[i][what]);
            }
        }
        Due.is("no line 4", h.line(4, 0), NO_COINS);
        Due.is("line what 3", h.line(0, 3), NO_COINS);
        for (int far : FAR) {
            Due.is("no line", h.line(far, 0), NO_COINS);
            Due.is("line what", h.line(0, far), NO_COINS);
        }
    }

    private static void count() {
        BillHouse h = Houses.oneWork(10, 0, 1, 1, 1, 0);
        h.work(0, 0);
        h.mark(0, 7);
        h.mark(1, -3);
        h.mark(2, 100);
        h.mark(3, 30);
        h.set(2, false);
        h.book(0);
        h.book(0);
        h.set(1, false);
        int[] want = {2, 4, 2, 3, 2, 37, 44};
        for (int what = 0; what < want.length; what++) {
            Due.is("count " + what, h.count(what), want[what]);
        }
        Due.is("count 7", h.count(7), NO_COINS);
        for (int far : FAR) {
            Due.is("count", h.count(far), NO_COINS);
        }
    }
}
