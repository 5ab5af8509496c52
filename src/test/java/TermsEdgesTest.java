import java.math.BigInteger;

/** The edges that the document's terms name, sentence by sentence, by answers that were worked out by hand. */
public final class TermsEdgesTest {
    private static final int NONE = -1;
    private static final int NO_COINS = -1000000;
    private static final long UNTOLD = -1000000000000L;
    private static final int ALONE = 1;

    private TermsEdgesTest() {
    }

    public static void main(String[] args) {
        useOfCalls();
        neededOfNobody();
        neededByUnits();
        neededRoundAndRound();
        totalCountsNeededOnesAlone();
        totalFromLeastToGreatest();
        costBoundsOfFixedAndStep();
        costOfEmptySet();
        notNeededDoNotCount();
        ringsWithOneUnit();
        ringsOfSix();
        ringsWhoseUserLeft();
        pricesBesideARingThatWasNeeded();
        fractionsOfGreatestDenominators();
        billsByUseOfNothing();
        billsAloneOfNothing();
        billsAloneOfThoseThere();
        billsByOrdersOfOneAndOfNobody();
        billsByOrdersOfEight();
        billsWithMarkedAtItsBounds();
        coinsWithNothingLeft();
        coinsWithMostLeft();
        coinsToGreatestRests();
        coinsOfAlikeRests();
        coinsPassOverThoseAway();
        coinsAloneOfNothing();
        leavingIsNotEmpty();
        leavingOnlyWithMore();
        leavingLeastAsNumber();
        leavingOfThoseThere();
        leavingWithoutMarked();
        bookedAtFirst();
        bookingOfOneWhoIsAway();
        bookingInOrderOfUsers();
        fractionsInLowestTerms();
        Due.end();
    }

    private static void useOfCalls() {
        Due.about("used for at most 512 calls");
        BillHouse h = Houses.oneWork(10, 0, 1, 1);
        // Five calls so far; the 512th books and is answered as the first would be.
        for (int call = 6; call <= 511; call++) {
            Due.is("call " + call, h.coins(call % 3, call % 2), 5);
        }
        Due.is("call 512", h.book(2), 2);
    }

    private static void neededOfNobody() {
        Due.about("NEEDED are WORKS that one of them uses: of nobody");
        BillHouse h = Houses.plain(6, 0);
        for (int work = 0; work < 6; work++) {
            h.change(work, 10, 1);
            h.feed((work + 1) % 6, work, 9);
        }
        Due.is("needed without users", h.needed(), 0);
        Due.is("cost without users", h.cost(0), 0);
        h.user();
        Due.is("needed by one who uses nothing", h.needed(), 0);
        Due.is("cost of one who uses nothing", h.cost(1), 0);
        h.use(0, 0, 1);
        h.set(0, false);
        Due.is("needed by one who is away", h.needed(), 0);
    }

    private static void neededByUnits() {
        Due.about("NEEDED by units of use");
        BillHouse h = Houses.plain(3, 1);
        h.use(0, 0, 0);
        Due.is("0 units are no use", h.needed(), 0);
        h.use(0, 0, 1);
        Due.is("1 unit is one", h.needed(), 1);
        h.feed(1, 0, 0);
        Due.is("0 units by a work are no use", h.needed(), 1);
        h.feed(1, 0, 1);
        Due.is("1 unit by a work is one", h.needed(), 3);
        h.feed(0, 2, 9);
        Due.is("who uses a needed one is not needed by that", h.needed(), 3);
        h.use(0, 0, 0);
        Due.is("without its use all falls", h.needed(), 0);
    }

    private static void neededRoundAndRound() {
        Due.about("and those that a NEEDED one uses");
        for (int start = 0; start < 6; start++) {
            BillHouse ring = Houses.plain(6, 1);
            for (int work = 0; work < 6; work++) {
                ring.feed((work + 1) % 6, work, 1);
            }
            ring.use(start, 0, 1);
            Due.is("ring of six from " + start, ring.needed(), 63);
            // The ring is cut before its start, so the way has all six on it, whatever their numbers.
            ring.feed(start, (start + 5) % 6, 0);
            Due.is("chain of six from " + start, ring.needed(), 63);
            ring.feed((start + 5) % 6, (start + 4) % 6, 0);
            Due.is("chain of five from " + start, ring.needed(), 63 & ~(1 << (start + 5) % 6));
        }
    }

    private static void totalCountsNeededOnesAlone() {
        Due.about("its units used by USERS of the set and by NEEDED WORKS");
        BillHouse h = Houses.plain(2, 2);
        h.change(0, 0, 1);
        h.use(0, 0, 5);
        h.use(0, 1, 5);
        h.use(1, 1, 1);
        h.feed(0, 1, 9);
        Due.is("both and the work", h.total(0), 19);
        Due.is("cost of the first: 5 units", h.cost(1), 1);
        Due.is("cost of the second: 5 and 9 units", h.cost(2), 2);
        Due.is("cost of both: 19 units", h.cost(3), 2);
        h.set(1, false);
        Due.is("neither the other nor the work that only it needs", h.total(0), 5);
    }

    /** Eight users and five works can use at most 9 units each, 117 in all. */
    private static BillHouse houseWithTotal(int units) {
        BillHouse h = Houses.plain(6, 8);
        h.change(0, 1000, 7);
        int left = units;
        for (int user = 0; user < 8; user++) {
            int share = Math.min(9, left);
            h.use(0, user, share);
            left -= share;
        }
        for (int work = 1; work < 6; work++) {
            int share = Math.min(9, left);
            h.use(work, 0, 1);
            h.feed(0, work, share);
            left -= share;
        }
        return h;
    }

    private static void totalFromLeastToGreatest() {
        Due.about("STEP for each ten units of TOTAL, the last ones begun counting as ten");
        BillHouse none = houseWithTotal(0);
        Due.is("total 0 is not needed", none.total(0), NONE);
        Due.is("not even fixed", none.cost(255), 0);
        int tens = 0;
        for (int units = 1; units <= 117; units++) {
            if (units % 10 == 1) {
                tens++;
            }
            BillHouse h = houseWithTotal(units);
            Due.is("total", h.total(0), units);
            Due.is("cost of " + units, h.cost(255), 1000 + 7 * tens);
        }
    }

    private static void costBoundsOfFixedAndStep() {
        Due.about("FIXED cost (0 .. 10,000) and a STEP price (0 .. 100)");
        Due.is("nothing", Houses.oneWork(0, 0, 9).cost(1), 0);
        Due.is("step alone", Houses.oneWork(0, 100, 9).cost(1), 100);
        Due.is("step of one", Houses.oneWork(0, 1, 9, 9).cost(3), 2);
        Due.is("fixed alone", Houses.oneWork(10000, 0, 9).cost(1), 10000);
        Due.is("both greatest", Houses.oneWork(10000, 100, 9, 9).cost(3), 10200);
        // A cost of 0 is needed all the same.
        Due.is("needed at no cost", Houses.oneWork(0, 0, 9).needed(), 1);
        Due.price(Houses.oneWork(0, 0, 9), 0, 0, 1);
    }

    private static void costOfEmptySet() {
        Due.about("COST of a set: of the empty one");
        Due.is("new house", new BillHouse().cost(0), 0);
        Due.is("half full", Houses.halfFull().cost(0), 0);
        Due.is("full", Houses.full().cost(0), 0);
    }

    private static void notNeededDoNotCount() {
        Due.about("WORKS that are not NEEDED by those THERE do not count");
        BillHouse h = Houses.oneWork(12, 0, 3, 1);
        h.work(5000, 100);
        h.use(1, 0, 0);
        h.user();
        h.use(1, 2, 9);
        h.feed(0, 1, 8);
        h.set(2, false);
        Due.is("needed", h.needed(), 1);
        Due.price(h, 0, 3, 1);
        Due.bill(h, 0, 0, 9, 1);
        Due.bill(h, ALONE, 0, 6, 1);
        Due.bill(h, 2, 0, 6, 1);
        Due.coins(h, 0, 9, 3);
        Due.is("saved", h.saved(0), 0);
        Due.is("leaving", h.leaving(0), 0);
        Due.is("price of it", h.price(1, 0), UNTOLD);
        Due.is("cost of one who is away, though", h.cost(4), 12 + 5000 + 100);
    }

    private static void ringsWithOneUnit() {
        Due.about("just one solution: each NEEDED one leads to a USER");
        // 10 p0 = 10000 + 9 p1 and 9 p1 = 10000 + 9 p0: all but one unit goes round.
        BillHouse h = Houses.oneWork(10000, 0, 1);
        h.work(10000, 0);
        h.feed(1, 0, 9);
        h.feed(0, 1, 9);
        Due.price(h, 0, 20000, 1);
        Due.price(h, 1, 190000, 9);
        Due.bill(h, 0, 0, 20000, 1);
        Due.coins(h, 0, 20000);
        h.change(0, 0, 0);
        h.change(1, 0, 0);
        Due.price(h, 0, 0, 1);
        Due.price(h, 1, 0, 1);
    }

    private static void ringsOfSix() {
        Due.about("RINGS of six");
        BillHouse h = Houses.plain(0, 1);
        for (int work = 0; work < 6; work++) {
            h.work(10000, 0);
        }
        for (int work = 0; work < 6; work++) {
            h.feed((work + 1) % 6, work, 9);
        }
        h.use(0, 0, 1);
        // 10 p0 = 10000 + 9 p1, 9 p1 = 10000 + 9 p2, .. 9 p5 = 10000 + 9 p0.
        Due.price(h, 0, 60000, 1);
        for (int work = 1; work < 6; work++) {
            int ninths = 540000 + 10000 * (6 - work);
            boolean byThree = ninths % 3 == 0;
            Due.price(h, work, byThree ? ninths / 3 : ninths, byThree ? 3 : 9);
        }
        Due.bill(h, 0, 0, 60000, 1);
        Due.is("idle", h.idle(), 0);
    }

    private static void ringsWhoseUserLeft() {
        Due.about("a ring that leads to nobody THERE");
        BillHouse h = Houses.oneWork(10, 0, 1, 0);
        h.work(10, 0);
        h.feed(1, 0, 9);
        h.feed(0, 1, 9);
        h.set(0, false);
        Due.is("needed", h.needed(), 0);
        Due.is("idle", h.idle(), 3);
        Due.is("price", h.price(0, 0), UNTOLD);
        Due.is("total", h.total(0), NONE);
        Due.is("cost of those there", h.cost(2), 0);
        for (int rule = 0; rule < 3; rule++) {
            Due.bill(h, rule, 1, 0, 1);
            Due.is("coins", h.coins(rule, 1), 0);
            Due.is("leaving", h.leaving(rule), 0);
        }
    }

    private static void pricesBesideARingThatWasNeeded() {
        Due.about("PRICE of each NEEDED WORK: nothing is left of a ring that was NEEDED before");
        // 2 p0 = 3 + p1 and p1 = 4 + p0; work 2 has 5 units for 10.
        BillHouse h = Houses.oneWork(3, 0, 1, 0);
        h.work(4, 0);
        h.work(10, 0);
        h.feed(1, 0, 1);
        h.feed(0, 1, 1);
        h.use(2, 1, 5);
        Due.price(h, 0, 7, 1);
        Due.price(h, 1, 11, 1);
        Due.price(h, 2, 2, 1);
        h.set(0, false);
        Due.price(h, 2, 2, 1);
        Due.bill(h, 0, 1, 10, 1);
        Due.coins(h, 0, NO_COINS, 10);
        Due.is("nobody leaves", h.leaving(0), 0);
        h.set(0, true);
        Due.price(h, 0, 7, 1);
        h.use(0, 0, 0);
        Due.price(h, 2, 2, 1);
        Due.bill(h, 0, 0, 0, 1);
    }

    /** Works that each use all later ones, with primes as totals, so nothing of the denominators goes away. */
    private static void fractionsOfGreatestDenominators() {
        Due.about("all in exact fractions: great ones");
        int[] totals = {71, 79, 89, 97, 107, 113};
        BillHouse h = Houses.plain(0, 8);
        for (int work = 0; work < 6; work++) {
            h.work(9999 - work, 100);
        }
        for (int work = 0; work < 6; work++) {
            int left = totals[work];
            for (int by = 0; by < work; by++) {
                h.feed(work, by, 9);
                left -= 9;
            }
            for (int user = 0; user < 8; user++) {
                int share = Math.min(9, left);
                h.use(work, user, share);
                left -= share;
            }
            Due.is("total", h.total(work), totals[work]);
        }
        BigInteger top = BigInteger.ZERO;
        BigInteger bottom = BigInteger.ONE;
        // From the last work on: what the later ones' prices are together is top / bottom.
        for (int work = 5; work >= 0; work--) {
            int cost = 9999 - work + 100 * ((totals[work] + 9) / 10);
            BigInteger ownTop = top.multiply(BigInteger.valueOf(9)).add(bottom.multiply(BigInteger.valueOf(cost)));
            BigInteger ownBottom = bottom.multiply(BigInteger.valueOf(totals[work]));
            BigInteger shared = ownTop.gcd(ownBottom);
            Due.price(h, work, ownTop.divide(shared).longValueExact(), ownBottom.divide(shared).longValueExact());
            top = top.multiply(BigInteger.valueOf(totals[work])).add(ownTop);
            bottom = ownBottom;
        }
        Due.is("greatest denominator", h.price(0, 1), 71L * 79 * 89 * 97 * 107 * 113);
    }

    private static void billsByUseOfNothing() {
        Due.about("0 USE: of one who uses nothing");
        BillHouse h = Houses.oneWork(10, 0, 0, 3);
        Due.bill(h, 0, 0, 0, 1);
        Due.bill(h, 0, 1, 10, 1);
        BillHouse none = Houses.plain(0, 1);
        Due.bill(none, 0, 0, 0, 1);
    }

    private static void billsAloneOfNothing() {
        Due.about("1 ALONE: all 0: each 0");
        BillHouse h = Houses.oneWork(0, 0, 9, 1, 0);
        for (int user = 0; user < 3; user++) {
            Due.bill(h, ALONE, user, 0, 1);
        }
        BillHouse none = Houses.plain(0, 2);
        Due.bill(none, ALONE, 0, 0, 1);
        Due.bill(none, ALONE, 1, 0, 1);
        none.mark(1, -7);
        Due.bill(none, ALONE, 1, -7, 1);
        // One of all is enough to part by.
        BillHouse one = Houses.oneWork(1, 0, 0, 1, 0);
        Due.bill(one, ALONE, 0, 0, 1);
        Due.bill(one, ALONE, 1, 1, 1);
    }

    private static void billsAloneOfThoseThere() {
        Due.about("1 ALONE: by the sum of those of each one alone, of those THERE");
        BillHouse h = Houses.oneWork(10, 0, 1, 1, 1);
        Due.bill(h, ALONE, 0, 10, 3);
        h.set(1, false);
        Due.bill(h, ALONE, 0, 5, 1);
        h.set(2, false);
        Due.bill(h, ALONE, 0, 10, 1);
    }

    private static void billsByOrdersOfOneAndOfNobody() {
        Due.about("2 ORDERS: of one and of nobody");
        BillHouse h = Houses.oneWork(10, 3, 9, 9);
        h.set(0, false);
        Due.bill(h, 2, 1, 13, 1);
        Due.is("coins of the only one", h.coins(2, 1), 13);
        h.set(1, false);
        Due.is("bill of nobody there", h.bill(2, 1, 0), UNTOLD);
        for (int rule = 0; rule < 3; rule++) {
            Due.is("leaving of nobody", h.leaving(rule), 0);
            Due.is("book of nobody", h.book(rule), 0);
            Due.is("differ of nobody", h.differ(rule, 2), 0);
        }
    }

    private static void billsByOrdersOfEight() {
        Due.about("2 ORDERS: over all orders of eight");
        // Works of cost 1 that eight, seven, five and three use: the last who use each share it alike.
        int[] shared = {8, 7, 5, 3};
        BillHouse h = Houses.plain(0, 8);
        for (int work = 0; work < shared.length; work++) {
            h.work(1, 0);
            for (int user = 0; user < shared[work]; user++) {
                h.use(work, user, 1 + user % 2);
            }
        }
        Due.bill(h, 2, 0, 673, 840);
        Due.bill(h, 2, 2, 673, 840);
        Due.bill(h, 2, 3, 131, 280);
        Due.bill(h, 2, 6, 15, 56);
        Due.bill(h, 2, 7, 1, 8);
    }

    private static void billsWithMarkedAtItsBounds() {
        Due.about("To each its MARKED coins are added");
        BillHouse h = Houses.oneWork(1, 0, 1, 1);
        h.mark(0, 10000);
        h.mark(1, -10000);
        for (int rule = 0; rule < 3; rule++) {
            Due.bill(h, rule, 0, 20001, 2);
            Due.bill(h, rule, 1, -19999, 2);
            // One goes to the first; the cut is made before marked is added.
            Due.coins(h, rule, 10001, -10000);
        }
    }

    private static void coinsWithNothingLeft() {
        Due.about("COINS: nothing is left");
        for (int rule = 0; rule < 3; rule++) {
            Due.coins(Houses.oneWork(0, 0, 1, 1), rule, 0, 0);
            Due.coins(Houses.oneWork(16, 0, 1, 1, 1, 1, 1, 1, 1, 1), rule, 2, 2, 2, 2, 2, 2, 2, 2);
        }
    }

    private static void coinsWithMostLeft() {
        Due.about("COINS: what is left of COST goes by ones");
        for (int rule = 0; rule < 3; rule++) {
            Due.coins(Houses.oneWork(1, 0, 1, 1, 1, 1, 1, 1, 1, 1), rule, 1, 0, 0, 0, 0, 0, 0, 0);
            Due.coins(Houses.oneWork(7, 0, 1, 1, 1, 1, 1, 1, 1, 1), rule, 1, 1, 1, 1, 1, 1, 1, 0);
            Due.coins(Houses.oneWork(15, 0, 1, 1, 1, 1, 1, 1, 1, 1), rule, 2, 2, 2, 2, 2, 2, 2, 1);
        }
    }

    private static void coinsToGreatestRests() {
        Due.about("COINS: to those with the greatest rests");
        // 1/7, 3/7, 3/7: the second.
        Due.coins(Houses.oneWork(1, 0, 1, 3, 3), 0, 0, 1, 0);
        // 3/7, 1 2/7, 1 2/7: the first, though its bill is the least.
        Due.coins(Houses.oneWork(3, 0, 1, 3, 3), 0, 1, 1, 1);
        // 4/7, 1 5/7, 1 5/7: the others.
        Due.coins(Houses.oneWork(4, 0, 1, 3, 3), 0, 0, 2, 2);
        // 10/11, 90/11 = 8 2/11, 10/11: both who use little.
        Due.coins(Houses.oneWork(10, 0, 1, 9, 1), 0, 1, 8, 1);
    }

    private static void coinsOfAlikeRests() {
        Due.about("COINS: of alike ones the lowest number first");
        // 6/14, 3 6/14, 2 2/14: alike rests of bills that are not alike.
        Due.coins(Houses.oneWork(6, 0, 1, 8, 5), 0, 1, 3, 2);
        Due.coins(Houses.oneWork(6, 0, 8, 1, 5), 0, 4, 0, 2);
        Due.coins(Houses.oneWork(6, 0, 5, 8, 1), 0, 2, 4, 0);
        // 1/2, 1, 1/2.
        Due.coins(Houses.oneWork(2, 0, 2, 4, 2), 0, 1, 1, 0);
    }

    private static void coinsPassOverThoseAway() {
        Due.about("COINS: those who are not THERE get none of what is left");
        BillHouse h = Houses.oneWork(5, 0, 1, 1, 1, 1);
        h.set(0, false);
        h.set(2, false);
        for (int rule = 0; rule < 3; rule++) {
            Due.coins(h, rule, NO_COINS, 3, NO_COINS, 2);
        }
    }

    private static void coinsAloneOfNothing() {
        Due.about("By ALONE, as all are alone 0, nobody gets any");
        BillHouse h = Houses.oneWork(0, 0, 9, 9, 9);
        Due.coins(h, ALONE, 0, 0, 0);
        Due.is("book", h.book(ALONE), 0);
        h.mark(1, 3);
        Due.coins(h, ALONE, 0, 3, 0);
        Due.is("cost is 0 then", h.cost(7), 0);
    }

    private static void leavingIsNotEmpty() {
        Due.about("LEAVING: not empty; 0: none");
        for (int rule = 0; rule < 3; rule++) {
            Due.is("without users", new BillHouse().leaving(rule), 0);
            Due.is("all for nothing", Houses.oneWork(0, 0, 9, 9).leaving(rule), 0);
            Due.is("one alone", Houses.oneWork(10, 1, 9).leaving(rule), 0);
        }
    }

    private static void leavingOnlyWithMore() {
        Due.about("LEAVING: together more than its COST");
        // 20 units in two tens: any two of the four pay 10, which is what they cost.
        Due.is("as much", Houses.oneWork(0, 10, 5, 5, 5, 5).leaving(0), 0);
        // 11 units in two tens: the first two pay 20/11 and cost 1.
        Due.is("a little more", Houses.oneWork(0, 1, 5, 5, 1).leaving(0), 3);
        // 11 units in two tens: the first pays 12/11 and costs 1; with 12 units it pays just that.
        Due.is("the least more", Houses.oneWork(0, 1, 6, 5).leaving(0), 1);
        Due.is("just as much", Houses.oneWork(0, 1, 6, 6).leaving(0), 0);
        // 11 units cost 11: the first pays 9 and costs 10.
        Due.is("less", Houses.oneWork(9, 1, 9, 2).leaving(0), 0);
    }

    private static void leavingLeastAsNumber() {
        Due.about("LEAVING: of all such the least as a number");
        // 0 and 1 pay 200/11 for what costs them 10, and 2 pays 180/11 for what costs it 10: 3 is less than 4.
        BillHouse h = Houses.plain(0, 4);
        h.work(0, 10);
        h.work(0, 10);
        h.use(0, 0, 5);
        h.use(0, 1, 5);
        h.use(0, 3, 1);
        h.use(1, 2, 9);
        h.use(1, 3, 2);
        Due.is("two before one", h.leaving(0), 3);
        h.use(0, 3, 0);
        Due.is("the one", h.leaving(0), 4);
        // The last of eight alone: 9 units of 11 in two tens.
        Due.is("the highest bit", Houses.oneWork(0, 10, 2, 0, 0, 0, 0, 0, 0, 9).leaving(0), 128);
        Due.is("the lowest bit", Houses.oneWork(0, 10, 9, 0, 0, 0, 0, 0, 0, 2).leaving(0), 1);
    }

    private static void leavingOfThoseThere() {
        Due.about("LEAVING: of those THERE");
        BillHouse h = Houses.oneWork(0, 10, 9, 9, 2);
        // With one of the first two away 9 and 2 units take two tens: who uses 9 pays 180/11 and costs 10.
        h.set(0, false);
        Due.is("second of those there", h.leaving(0), 2);
        h.set(0, true);
        h.set(1, false);
        Due.is("first of those there", h.leaving(0), 1);
        h.set(2, false);
        Due.is("the only one", h.leaving(0), 0);
    }

    private static void leavingWithoutMarked() {
        Due.about("LEAVING: BILLS without MARKED");
        BillHouse h = Houses.oneWork(0, 10, 5, 5);
        h.mark(0, 10000);
        for (int rule = 0; rule < 3; rule++) {
            Due.is("much marked", h.leaving(rule), 0);
        }
        BillHouse less = Houses.oneWork(0, 10, 9, 2);
        less.mark(0, -10000);
        Due.is("little marked", less.leaving(0), 1);
    }

    private static void bookedAtFirst() {
        Due.about("BOOKED: 0 at first");
        BillHouse h = Houses.oneWork(10, 0, 1, 1);
        h.mark(0, 5);
        Due.is("booked", h.booked(0), 0);
        Due.is("lines", h.count(3), 0);
        // Coins of 0 are as booked at first, so there is no line.
        h.mark(0, -10);
        Due.is("one line alone", h.book(0), 1);
        Due.line(h, 0, 0, 1, 5);
    }

    private static void bookingOfOneWhoIsAway() {
        Due.about("COINS (0 of one who is not THERE)");
        BillHouse h = Houses.oneWork(10, 0, 1, 1);
        h.mark(0, 100);
        h.set(0, false);
        Due.is("no line for one away at first", h.book(0), 1);
        Due.is("booked", h.booked(0), 0);
        h.set(0, true);
        h.book(0);
        Due.is("with marked", h.booked(0), 105);
        h.set(0, false);
        Due.is("both", h.book(0), 2);
        Due.is("back to 0", h.booked(0), 0);
        Due.line(h, 3, 2, 0, -105);
        Due.line(h, 4, 2, 1, 5);
    }

    private static void bookingInOrderOfUsers() {
        Due.about("for each USER, in order, whose COINS are other than BOOKED a LINE with the difference");
        BillHouse h = Houses.oneWork(80, 0, 1, 1, 1, 1, 1, 1, 1, 1);
        Due.is("all eight", h.book(0), 8);
        for (int user = 0; user < 8; user++) {
            Due.line(h, user, 0, user, 10);
        }
        h.mark(6, -1);
        h.mark(2, 4);
        Due.is("two of eight", h.book(0), 2);
        Due.line(h, 8, 1, 2, 4);
        Due.line(h, 9, 1, 6, -1);
        Due.is("the lines end", h.line(10, 0), NO_COINS);
    }

    private static void fractionsInLowestTerms() {
        Due.about("Fractions are told in lowest terms (of 0: 1)");
        BillHouse h = Houses.oneWork(6, 0, 4, 4);
        Due.price(h, 0, 3, 4);
        h.change(0, 16, 0);
        Due.price(h, 0, 2, 1);
        h.change(0, 0, 0);
        Due.price(h, 0, 0, 1);
        Due.bill(h, 0, 0, 0, 1);
        h.change(0, 3, 0);
        h.mark(0, -2);
        for (int rule = 0; rule < 3; rule++) {
            Due.bill(h, rule, 0, -1, 2);
        }
        h.change(0, 4, 0);
        for (int rule = 0; rule < 3; rule++) {
            // 2 less 2.
            Due.bill(h, rule, 0, 0, 1);
        }
    }
}
