/** Counts and prints the answers that are not the ones that are due. */
final class Due {
    private static int wrong = 0;
    private static int asked = 0;
    private static String sentence = "";

    private Due() {
    }

    /** The sentence of the document that the answers from here on are about. */
    static void about(String words) {
        sentence = words + ": ";
    }

    static void is(String what, long got, long want) {
        asked++;
        if (got != want) {
            wrong++;
            System.out.println(sentence + what + " answered " + got + ", due is " + want);
        }
    }

    static void is(String what, boolean got, boolean want) {
        is(what, got ? 1 : 0, want ? 1 : 0);
    }

    static void price(BillHouse h, int work, long top, long bottom) {
        is("numerator of price " + work, h.price(work, 0), top);
        is("denominator of price " + work, h.price(work, 1), bottom);
    }

    static void bill(BillHouse h, int rule, int user, long top, long bottom) {
        is("numerator of bill " + rule + " of " + user, h.bill(rule, user, 0), top);
        is("denominator of bill " + rule + " of " + user, h.bill(rule, user, 1), bottom);
    }

    /** The coins of the users 0, 1, .. in order. */
    static void coins(BillHouse h, int rule, int... want) {
        for (int user = 0; user < want.length; user++) {
            is("coins " + rule + " of " + user, h.coins(rule, user), want[user]);
        }
    }

    static void line(BillHouse h, int i, int booking, int user, int coins) {
        is("booking of line " + i, h.line(i, 0), booking);
        is("user of line " + i, h.line(i, 1), user);
        is("coins of line " + i, h.line(i, 2), coins);
    }

    static int wrong() {
        return wrong;
    }

    static void end() {
        System.out.println(asked + " answers, " + wrong + " not as due");
        if (wrong != 0 || asked == 0) {
            System.exit(1);
        }
    }
}
