import java.util.ArrayList;
import java.util.List;
import java.util.function.Supplier;

/**
 * All that a house answers, by which two houses are told apart. Each part is asked of a house made anew,
 * so that none is used for more than the 512 calls that the document allows.
 */
final class Readings {
    private final Supplier<BillHouse> making;
    private final List<String> told = new ArrayList<>();

    private Readings(Supplier<BillHouse> making) {
        this.making = making;
    }

    static List<String> of(Supplier<BillHouse> making) {
        Readings readings = new Readings(making);
        readings.state();
        readings.costs();
        readings.bills();
        readings.lines();
        readings.eachAlone();
        readings.whatComesNext();
        return readings.told;
    }

    private void tell(String call, long answer) {
        told.add(call + " = " + answer);
    }

    private void state() {
        BillHouse h = making.get();
        for (int what = 0; what < 7; what++) {
            tell("count(" + what + ")", h.count(what));
        }
        tell("needed()", h.needed());
        tell("idle()", h.idle());
        for (int work = 0; work < 6; work++) {
            tell("total(" + work + ")", h.total(work));
            tell("price(" + work + ", 0)", h.price(work, 0));
            tell("price(" + work + ", 1)", h.price(work, 1));
        }
        for (int user = 0; user < 8; user++) {
            tell("saved(" + user + ")", h.saved(user));
            tell("booked(" + user + ")", h.booked(user));
            tell("mark(" + user + ", 0)", h.mark(user, 0));
        }
    }

    private void costs() {
        BillHouse h = making.get();
        for (int set = 0; set < 256; set++) {
            tell("cost(" + set + ")", h.cost(set));
        }
    }

    private void bills() {
        BillHouse h = making.get();
        for (int rule = 0; rule < 3; rule++) {
            for (int user = 0; user < 8; user++) {
                tell("bill(" + rule + ", " + user + ", 0)", h.bill(rule, user, 0));
                tell("bill(" + rule + ", " + user + ", 1)", h.bill(rule, user, 1));
                tell("coins(" + rule + ", " + user + ")", h.coins(rule, user));
            }
            tell("leaving(" + rule + ")", h.leaving(rule));
            for (int other = 0; other < 3; other++) {
                tell("differ(" + rule + ", " + other + ")", h.differ(rule, other));
            }
        }
    }

    private void lines() {
        int lines = making.get().count(3);
        for (int start = 0; start < lines; start += 100) {
            BillHouse h = making.get();
            for (int i = start; i < lines && i < start + 100; i++) {
                for (int what = 0; what < 3; what++) {
                    tell("line(" + i + ", " + what + ")", h.line(i, what));
                }
            }
        }
    }

    /** With one user there at a time the units that it uses show, also those of one who is away now. */
    private void eachAlone() {
        for (int user = 0; user < 8; user++) {
            BillHouse h = making.get();
            for (int other = 0; other < 8; other++) {
                h.set(other, other == user);
            }
            for (int work = 0; work < 6; work++) {
                tell("alone " + user + ": total(" + work + ")", h.total(work));
                tell("alone " + user + ": price(" + work + ", 0)", h.price(work, 0));
                tell("alone " + user + ": price(" + work + ", 1)", h.price(work, 1));
            }
        }
    }

    /** What a call that was refused must not have used up: places, bookings, lines. */
    private void whatComesNext() {
        BillHouse h = making.get();
        tell("then book(1)", h.book(1));
        tell("then line", h.line(h.count(3) - 1, 0));
        tell("then work(1, 1)", h.work(1, 1));
        tell("then user()", h.user());
        tell("then count(4)", h.count(4));
    }
}
