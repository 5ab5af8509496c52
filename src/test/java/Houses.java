/** Houses that several tests begin with. */
final class Houses {
    private Houses() {
    }

    /** Works that cost nothing, and users that use nothing yet. */
    static BillHouse plain(int works, int users) {
        BillHouse house = new BillHouse();
        for (int work = 0; work < works; work++) {
            house.work(0, 0);
        }
        for (int user = 0; user < users; user++) {
            house.user();
        }
        return house;
    }

    /** One work, which each user uses by as many units as told. */
    static BillHouse oneWork(int fixed, int step, int... units) {
        BillHouse house = plain(0, units.length);
        house.work(fixed, step);
        for (int user = 0; user < units.length; user++) {
            house.use(0, user, units[user]);
        }
        return house;
    }

    /** Four works, of which 2 and 3 are an idle ring, and four users, of which 2 is away; two bookings. */
    static BillHouse halfFull() {
        BillHouse house = plain(0, 4);
        house.work(100, 7);
        house.work(31, 0);
        house.work(50, 3);
        house.work(0, 9);
        house.use(0, 0, 9);
        house.use(0, 1, 2);
        house.use(1, 1, 5);
        house.use(2, 2, 4);
        house.feed(0, 1, 3);
        house.feed(1, 0, 8);
        house.feed(2, 3, 1);
        house.feed(3, 2, 2);
        house.mark(0, -40);
        house.mark(2, 9000);
        house.mark(3, 17);
        house.book(0);
        house.set(2, false);
        house.book(2);
        return house;
    }

    /** Six works, eight users (7 is away), marked coins at both bounds and 400 lines; the next booking is one too many. */
    static BillHouse full() {
        BillHouse house = plain(0, 8);
        for (int work = 0; work < 6; work++) {
            house.work(10 * work, work);
            house.use(work, work, 3);
        }
        for (int user = 0; user < 8; user++) {
            house.use(0, user, 1);
        }
        for (int work = 0; work < 6; work++) {
            house.feed(work, (work + 1) % 6, 2);
        }
        house.mark(0, 10000);
        house.mark(1, -10000);
        // All use work 0, so its cost makes another bill for each of the eight.
        for (int round = 0; round < 50; round++) {
            house.change(0, round % 2 == 0 ? 8000 : 0, 0);
            house.book(0);
        }
        house.set(7, false);
        return house;
    }
}
