/** The edges that each promise names, and those just inside of them, by answers that were worked out by hand. */
public final class CallsEdgesTest {
    private static final int NONE = -1;
    private static final int NOT_MARKED = -20000;
    private static final int NO_COINS = -1000000;

    private CallsEdgesTest() {
    }

    public static void main(String[] args) {
        newObjectsShareNothing();
        workUpToSix();
        workAtItsBounds();
        userUpToEight();
        userIsThere();
        changeAtItsBounds();
        changeOfOneNotNeeded();
        useAtItsBounds();
        useByOneWhoIsAway();
        feedAtItsBounds();
        feedGoesOneWay();
        setOfAll();
        markAtItsBounds();
        markToNone();
        neededAsBits();
        idleAsBits();
        idleNotOnTheRing();
        totalOfOneUnit();
        costOfEachBit();
        priceOfOneThatCostsNothing();
        billAndCoinsAsUsersComeAndGo();
        savedByTens();
        savedOfTheLastOne();
        differAtItsBounds();
        bookUpToFourHundred();
        bookWithoutLines();
        bookedBelowZero();
        lineFirstAndLast();
        countAtItsBounds();
        Due.end();
    }

    private static void newObjectsShareNothing() {
        Due.about("promise 1: no WORKS, no USERS");
        BillHouse full = Houses.full();
        BillHouse fresh = new BillHouse();
        for (int what = 0; what < 7; what++) {
            Due.is("count " + what, fresh.count(what), 0);
        }
        Due.is("first work", fresh.work(0, 0), 0);
        Due.is("first user", fresh.user(), 0);
        Due.is("it uses nothing", fresh.needed(), 0);
        Due.is("the other one stays full", full.work(0, 0), NONE);
    }

    private static void workUpToSix() {
        Due.about("promise 2: there are six");
        BillHouse h = new BillHouse();
        for (int number = 0; number < 6; number++) {
            Due.is("refused between", h.work(10001, 0), NONE);
            Due.is("work", h.work(number, number), number);
        }
        for (int again = 0; again < 3; again++) {
            Due.is("seventh", h.work(0, 0), NONE);
        }
        Due.is("six", h.count(0), 6);
        Due.is("the sixth is one", h.change(5, 0, 0), true);
        Due.is("the seventh is none", h.change(6, 0, 0), false);
    }

    private static void workAtItsBounds() {
        Due.about("promise 2: out of bounds");
        BillHouse h = new BillHouse();
        int[][] inside = {{0, 0}, {10000, 0}, {0, 100}, {10000, 100}};
        int[][] outside = {{-1, 0}, {10001, 0}, {0, -1}, {0, 101}, {-1, 101}, {10001, 100}};
        for (int[] one : outside) {
            Due.is("work(" + one[0] + ", " + one[1] + ")", h.work(one[0], one[1]), NONE);
        }
        for (int number = 0; number < inside.length; number++) {
            Due.is("work " + number, h.work(inside[number][0], inside[number][1]), number);
        }
        h.user();
        for (int number = 0; number < inside.length; number++) {
            h.use(number, 0, 1);
            Due.is("cost", h.cost(1), inside[number][0] + inside[number][1]);
            h.use(number, 0, 0);
        }
    }

    private static void userUpToEight() {
        Due.about("promise 3: there are eight");
        BillHouse h = Houses.plain(1, 8);
        for (int again = 0; again < 3; again++) {
            Due.is("ninth", h.user(), NONE);
        }
        Due.is("eight", h.count(1), 8);
        Due.is("eight there", h.count(2), 8);
        Due.is("the eighth is one", h.use(0, 7, 1), true);
        Due.is("the ninth is none", h.use(0, 8, 1), false);
        for (int user = 0; user < 8; user++) {
            h.set(user, false);
        }
        Due.is("ninth with all away", h.user(), NONE);
    }

    private static void userIsThere() {
        Due.about("promise 3: a USER that is THERE");
        BillHouse h = Houses.oneWork(10, 0, 1);
        h.set(0, false);
        Due.is("user", h.user(), 1);
        Due.is("is there", h.set(1, true), false);
        Due.is("one there", h.count(2), 1);
        Due.is("has coins", h.coins(0, 1), 0);
        Due.is("has nothing marked", h.mark(1, 0), 0);
        Due.is("nothing booked", h.booked(1), 0);
        Due.is("the first stays away", h.coins(0, 0), NO_COINS);
    }

    private static void changeAtItsBounds() {
        Due.about("promise 4: out of bounds");
        BillHouse h = Houses.oneWork(5, 5, 9, 2);
        int[][] outside = {{-1, 5}, {10001, 5}, {5, -1}, {5, 101}};
        for (int[] one : outside) {
            Due.is("change(0, " + one[0] + ", " + one[1] + ")", h.change(0, one[0], one[1]), false);
            Due.is("cost stays", h.cost(3), 15);
        }
        Due.is("greatest fixed", h.change(0, 10000, 5), true);
        Due.is("cost", h.cost(3), 10010);
        Due.is("greatest step", h.change(0, 5, 100), true);
        Due.is("cost", h.cost(3), 205);
        Due.is("least", h.change(0, 0, 0), true);
        Due.is("cost", h.cost(3), 0);
    }

    private static void changeOfOneNotNeeded() {
        Due.about("promise 4: of one that is not NEEDED");
        BillHouse h = Houses.oneWork(5, 5, 0);
        Due.is("change", h.change(0, 40, 2), true);
        Due.is("no cost yet", h.cost(1), 0);
        h.use(0, 0, 1);
        Due.is("cost as it was changed", h.cost(1), 42);
        h.change(0, 41, 2);
        Due.is("cost that was asked for before", h.cost(1), 43);
    }

    private static void useAtItsBounds() {
        Due.about("promise 5: out of bounds");
        BillHouse h = Houses.oneWork(0, 0, 5);
        Due.is("10 units", h.use(0, 0, 10), false);
        Due.is("-1 unit", h.use(0, 0, -1), false);
        Due.is("as before", h.total(0), 5);
        Due.is("9 units", h.use(0, 0, 9), true);
        Due.is("total", h.total(0), 9);
        Due.is("the same again", h.use(0, 0, 9), true);
        Due.is("is not more", h.total(0), 9);
        Due.is("0 units", h.use(0, 0, 0), true);
        Due.is("no total", h.total(0), NONE);
        Due.is("0 units again", h.use(0, 0, 0), true);
    }

    private static void useByOneWhoIsAway() {
        Due.about("promise 5: by a USER, THERE or not");
        BillHouse h = Houses.oneWork(12, 0, 1, 1);
        h.set(1, false);
        Due.is("use", h.use(0, 1, 3), true);
        Due.is("total without", h.total(0), 1);
        Due.is("cost of it", h.cost(2), 12);
        h.set(1, true);
        Due.is("total with", h.total(0), 4);
        Due.coins(h, 0, 3, 9);
    }

    private static void feedAtItsBounds() {
        Due.about("promise 6: False likewise, or by itself");
        BillHouse h = Houses.plain(2, 1);
        h.use(0, 0, 1);
        h.feed(1, 0, 5);
        Due.is("10 units", h.feed(1, 0, 10), false);
        Due.is("-1 unit", h.feed(1, 0, -1), false);
        Due.is("by itself", h.feed(0, 0, 5), false);
        Due.is("by itself nothing", h.feed(1, 1, 0), false);
        Due.is("of the next", h.feed(2, 0, 1), false);
        Due.is("by the next", h.feed(0, 2, 1), false);
        Due.is("of the next by itself", h.feed(2, 2, 1), false);
        Due.is("as before", h.total(1), 5);
        Due.is("as before", h.total(0), 1);
        Due.is("9 units", h.feed(1, 0, 9), true);
        Due.is("total", h.total(1), 9);
        Due.is("0 units", h.feed(1, 0, 0), true);
        Due.is("no total", h.total(1), NONE);
    }

    private static void feedGoesOneWay() {
        Due.about("promise 6: USE of a WORK by another one");
        BillHouse h = Houses.plain(2, 1);
        h.feed(0, 1, 4);
        h.use(0, 0, 1);
        Due.is("0 does not need 1", h.needed(), 1);
        Due.is("nor has its units", h.total(0), 1);
        h.use(0, 0, 0);
        h.use(1, 0, 1);
        Due.is("1 needs 0", h.needed(), 3);
        Due.is("with its units", h.total(0), 4);
        h.feed(1, 0, 2);
        Due.is("both ways are two uses", h.total(0), 4);
        Due.is("of other units", h.total(1), 3);
    }

    private static void setOfAll() {
        Due.about("promise 7: THERE, or not");
        BillHouse h = Houses.oneWork(8, 0, 1, 1, 1, 1, 1, 1, 1, 1);
        for (int user = 7; user >= 0; user--) {
            Due.is("as it is", h.set(user, true), false);
            Due.is("away", h.set(user, false), true);
            Due.is("as it is", h.set(user, false), false);
            Due.is("there", h.count(2), user);
        }
        Due.is("nobody needs", h.needed(), 0);
        Due.is("cost of all away", h.cost(255), 8);
        for (int user = 0; user < 8; user++) {
            Due.is("there again", h.set(user, true), true);
        }
        Due.is("all there", h.count(2), 8);
        Due.is("coins", h.coins(0, 7), 1);
    }

    private static void markAtItsBounds() {
        Due.about("promise 8: out of bounds then");
        BillHouse h = Houses.plain(0, 2);
        Due.is("10001 at once", h.mark(0, 10001), NOT_MARKED);
        Due.is("-10001 at once", h.mark(0, -10001), NOT_MARKED);
        Due.is("nothing is marked", h.mark(0, 0), 0);
        Due.is("10000 at once", h.mark(0, 10000), 10000);
        Due.is("one more", h.mark(0, 1), NOT_MARKED);
        Due.is("none more", h.mark(0, 0), 10000);
        Due.is("20001 less", h.mark(0, -20001), NOT_MARKED);
        Due.is("20000 less", h.mark(0, -20000), -10000);
        Due.is("one less", h.mark(0, -1), NOT_MARKED);
        Due.is("20001 more", h.mark(0, 20001), NOT_MARKED);
        Due.is("20000 more", h.mark(0, 20000), 10000);
        Due.is("the other may have as many", h.mark(1, 10000), 10000);
        Due.is("marked of both", h.count(5), 20000);
    }

    private static void markToNone() {
        Due.about("promise 8: NONE may be that, too");
        BillHouse h = Houses.plain(0, 1);
        Due.is("one less", h.mark(0, -1), NONE);
        Due.is("is marked", h.count(5), -1);
        Due.is("one less again", h.mark(0, -1), -2);
        Due.is("bill", h.bill(0, 0, 0), -2);
    }

    private static void neededAsBits() {
        Due.about("promise 9: NEEDED WORKS as bits");
        BillHouse h = Houses.plain(6, 1);
        Due.is("none", h.needed(), 0);
        for (int work = 0; work < 6; work++) {
            h.use(work, 0, 1);
            Due.is("work " + work, h.needed(), 1 << work);
            h.use(work, 0, 0);
        }
        for (int work = 0; work < 6; work++) {
            h.use(work, 0, 9);
        }
        Due.is("all", h.needed(), 63);
    }

    private static void idleAsBits() {
        Due.about("promise 10: not NEEDED and on a ring of USES, as bits");
        for (int one = 0; one < 6; one++) {
            for (int other = 0; other < one; other++) {
                BillHouse h = Houses.plain(6, 0);
                h.feed(one, other, 1);
                Due.is("no ring", h.idle(), 0);
                h.feed(other, one, 9);
                Due.is("ring of two", h.idle(), 1 << one | 1 << other);
                h.feed(one, other, 0);
                Due.is("cut ring", h.idle(), 0);
            }
        }
    }

    private static void idleNotOnTheRing() {
        Due.about("promise 10: those that lie on a ring");
        // 0 uses 1, 1 and 2 use one another, 2 uses 3, 3 uses 4, 4 and 5 use one another.
        BillHouse h = Houses.plain(6, 1);
        h.feed(1, 0, 1);
        h.feed(2, 1, 1);
        h.feed(1, 2, 1);
        h.feed(3, 2, 1);
        h.feed(4, 3, 1);
        h.feed(5, 4, 1);
        h.feed(4, 5, 1);
        Due.is("neither 0, which leads to a ring, nor 3 between two", h.idle(), 2 + 4 + 16 + 32);
        h.use(3, 0, 1);
        Due.is("the second ring is needed", h.idle(), 2 + 4);
        Due.is("needed", h.needed(), 8 + 16 + 32);
        h.set(0, false);
        Due.is("by one who is away no more", h.idle(), 2 + 4 + 16 + 32);
    }

    private static void totalOfOneUnit() {
        Due.about("promise 11: TOTAL of a NEEDED WORK");
        BillHouse h = Houses.plain(6, 1);
        h.use(5, 0, 1);
        h.feed(4, 5, 1);
        h.feed(5, 3, 9);
        Due.is("one unit of a user", h.total(5), 1);
        Due.is("one unit of a work", h.total(4), 1);
        Due.is("it uses, but is not needed", h.total(3), NONE);
        Due.is("no such one", h.total(6), NONE);
        Due.is("no such one", h.total(-1), NONE);
    }

    private static void costOfEachBit() {
        Due.about("promise 12: bits; they need not be THERE");
        BillHouse h = Houses.plain(0, 7);
        h.work(100, 0);
        h.work(3, 0);
        for (int user = 0; user < 7; user++) {
            h.use(user % 2, user, 1);
        }
        Due.is("bit of the next", h.cost(128), NONE);
        h.user();
        Due.is("bit of one who came", h.cost(128), 0);
        h.use(1, 7, 1);
        for (int user = 0; user < 8; user++) {
            h.set(user, user % 3 == 0);
            Due.is("bit " + user, h.cost(1 << user), user % 2 == 0 ? 100 : 3);
        }
        Due.is("all", h.cost(255), 103);
        Due.is("the even ones", h.cost(85), 100);
        Due.is("bit 8", h.cost(256), NONE);
        Due.is("bit 31", h.cost(1 << 31), NONE);
    }

    private static void priceOfOneThatCostsNothing() {
        Due.about("promise 13: PRICE of a NEEDED WORK");
        BillHouse h = Houses.oneWork(0, 0, 7);
        Due.price(h, 0, 0, 1);
        // It costs nothing itself, but uses what costs.
        h.work(5, 0);
        h.feed(1, 0, 3);
        Due.price(h, 0, 5, 7);
        Due.price(h, 1, 5, 3);
        h.use(0, 0, 0);
        Due.is("none is needed", h.price(0, 0), BillHouse.UNTOLD);
        Due.is("none is needed", h.price(1, 1), BillHouse.UNTOLD);
    }

    private static void billAndCoinsAsUsersComeAndGo() {
        Due.about("promises 14 and 15: USER THERE");
        BillHouse h = Houses.oneWork(9, 0, 1, 2);
        for (int rule = 0; rule < 3; rule++) {
            h.set(1, false);
            Due.is("bill of one away", h.bill(rule, 1, 0), BillHouse.UNTOLD);
            Due.is("coins of one away", h.coins(rule, 1), NO_COINS);
            Due.bill(h, rule, 0, 9, 1);
            Due.is("coins of the other", h.coins(rule, 0), 9);
            h.set(1, true);
            Due.bill(h, rule, 1, rule == 0 ? 6 : 9, rule == 0 ? 1 : 2);
            Due.is("coins", h.coins(rule, 1), rule == 0 ? 6 : 4);
        }
    }

    private static void savedByTens() {
        Due.about("promise 17: COST of those THERE less COST without");
        BillHouse h = Houses.oneWork(50, 7, 9, 1, 1);
        Due.is("11 units less 1", h.saved(2), 7);
        Due.is("11 units less 9", h.saved(0), 7);
        h.use(0, 2, 0);
        Due.is("one who uses nothing", h.saved(2), 0);
        Due.is("10 units less 1", h.saved(1), 0);
        h.mark(1, 1000);
        Due.is("marked is not saved", h.saved(1), 0);
    }

    private static void savedOfTheLastOne() {
        Due.about("promise 17: of the last one, and of one who is not THERE");
        BillHouse h = Houses.oneWork(50, 7, 9, 9);
        h.set(0, false);
        Due.is("all is saved", h.saved(1), 57);
        Due.is("one away", h.saved(0), NONE);
        h.set(1, false);
        Due.is("nobody there", h.saved(1), NONE);
    }

    private static void differAtItsBounds() {
        Due.about("promise 18: how far their COINS differ");
        BillHouse h = Houses.oneWork(10000, 0, 9, 1, 0);
        // By use 9000, 1000, 0; alone 5000, 5000, 0.
        Due.is("0 and 1", h.differ(0, 1), 8000);
        Due.is("2 and 0", h.differ(2, 0), 8000);
        for (int rule = 0; rule < 3; rule++) {
            Due.is("with itself", h.differ(rule, rule), 0);
            Due.is("rule 3 after", h.differ(rule, 3), NONE);
            Due.is("rule -1 before", h.differ(-1, rule), NONE);
        }
        h.set(0, false);
        Due.is("those there alone", h.differ(0, 1), 0);
    }

    private static void bookUpToFourHundred() {
        Due.about("promise 19: there would be more than 400 in all");
        for (int before = 0; before <= 8; before++) {
            for (int more = 0; more <= 8; more++) {
                bookBeyond392(before, more);
            }
        }
    }

    private static void bookBeyond392(int before, int more) {
        BillHouse h = Houses.oneWork(80, 0, 1, 1, 1, 1, 1, 1, 1, 1);
        for (int booking = 0; booking < 49; booking++) {
            h.change(0, booking % 2 == 0 ? 80 : 160, 0);
            h.book(booking % 3);
        }
        markFirst(h, before);
        Due.is("up to 400 lines", h.book(0), before);
        markFirst(h, more);
        boolean fits = before + more <= 8;
        String what = before + " and " + more + " after 392: ";
        Due.is(what + "book", h.book(0), fits ? more : NONE);
        Due.is(what + "lines", h.count(3), 392 + before + (fits ? more : 0));
        Due.is(what + "bookings", h.count(4), fits ? 51 : 50);
        Due.is(what + "booked", h.count(6), 80 + before + (fits ? more : 0));
        Due.is(what + "no line more", h.line(h.count(3), 0), NO_COINS);
    }

    private static void markFirst(BillHouse h, int users) {
        for (int user = 0; user < users; user++) {
            h.mark(user, 1);
        }
    }

    private static void bookWithoutLines() {
        Due.about("promise 19: how many LINES it made");
        BillHouse h = Houses.plain(0, 1);
        Due.is("none", h.book(0), 0);
        Due.is("is a booking", h.count(4), 1);
        h.mark(0, 2);
        Due.is("one", h.book(1), 1);
        Due.line(h, 0, 1, 0, 2);
        Due.is("refused", h.book(3), NONE);
        Due.is("is no booking", h.count(4), 2);
    }

    private static void bookedBelowZero() {
        Due.about("promise 20: BOOKED for a USER");
        BillHouse h = Houses.oneWork(10, 0, 1, 1);
        h.mark(0, -10000);
        h.mark(1, 10000);
        h.book(0);
        Due.is("below 0", h.booked(0), -9995);
        Due.is("above", h.booked(1), 10005);
        Due.is("of the next", h.booked(2), 0);
        h.user();
        Due.is("of one who came", h.booked(2), 0);
        Due.is("of -1", h.booked(-1), 0);
        h.mark(1, -20000);
        h.book(2);
        Due.is("then", h.booked(1), -9995);
        Due.line(h, 2, 1, 1, -20000);
    }

    private static void lineFirstAndLast() {
        Due.about("promise 21: -1,000,000 without, or for others");
        BillHouse h = Houses.oneWork(10, 0, 1);
        Due.is("line 0 before any", h.line(0, 0), NO_COINS);
        h.book(0);
        Due.line(h, 0, 0, 0, 10);
        Due.is("line 1", h.line(1, 0), NO_COINS);
        Due.is("line -1", h.line(-1, 0), NO_COINS);
        Due.is("what 3", h.line(0, 3), NO_COINS);
        Due.is("what -1", h.line(0, -1), NO_COINS);
    }

    private static void countAtItsBounds() {
        Due.about("promise 22: count");
        BillHouse h = Houses.plain(6, 8);
        for (int user = 0; user < 8; user++) {
            h.mark(user, 10000);
        }
        Due.is("marked greatest", h.count(5), 80000);
        h.book(0);
        Due.is("booked greatest of marked", h.count(6), 80000);
        h.set(7, false);
        Due.is("marked of those there", h.count(5), 70000);
        Due.is("booked of those away too", h.count(6), 80000);
        for (int user = 0; user < 8; user++) {
            h.mark(user, -20000);
        }
        Due.is("marked least", h.count(5), -70000);
        h.book(0);
        Due.is("booked least", h.count(6), -70000);
        Due.is("what 7", h.count(7), NO_COINS);
        Due.is("what -1", h.count(-1), NO_COINS);
    }
}
