/** Promises 14 (saying) to 18 (passed), each sentence that names a limit, a refusal or an empty or full row. */
public final class Edges14To18Test {
    private static final Check check = new Check();
    private static final int NONE = -1, BAD = -2;
    private static final int MIN = Integer.MIN_VALUE, MAX = Integer.MAX_VALUE;
    private static final int[] NO_SIGNS = {-1, 1024, 1025, MIN, MAX};
    private static final int[] NO_TWO = {-1, 2, 8, MIN, MAX};
    private static final int DAY = (1 << 24) - 1;

    public static void main(String[] args) {
        sayingRefused();
        saying();
        hoursRefused();
        hours();
        hoursByWind();
        senders();
        meant();
        passedRefused();
        passedByFewer();
        passedByTies();
        passedByTheLastOrder();
        passedByAllOrders();
        check.covered(14, 18);
        check.end();
    }

    /** Two words, two senders. */
    private static SignalBlind two() {
        SignalBlind x = new SignalBlind();
        x.word(0);
        x.word(1023);
        x.sender(0, 0);
        x.sender(2, 0);
        return x;
    }

    private static void sayingRefused() {
        check.promise(14, "NONE");
        check.due("nobody, no words", new SignalBlind().saying(0, 0, 0), NONE);
        SignalBlind x = two();
        for (int no : NO_TWO) {
            check.due("saying(" + no + ", 0, 0)", x.saying(no, 0, 0), NONE);
            check.due("saying(0, " + no + ", 1)", x.saying(0, no, 1), NONE);
            check.due("saying(1, 1, " + no + ")", x.saying(1, 1, no), NONE);
        }
    }

    private static void saying() {
        check.promise(14, "what 0 the first (-5), 1 how many");
        SignalBlind x = two();
        check.due("the first is the least", x.saying(0, 0, 0), 0);
        check.due("one", x.saying(0, 0, 1), 1);
        check.due("the first is the greatest", x.saying(0, 1, 0), 1023);
        check.due("one", x.saying(0, 1, 1), 1);
        check.due("there is none", x.saying(1, 1, 0), -5);
        check.due("none", x.saying(1, 1, 1), 0);
        check.due("of several the first", x.saying(1, 0, 0), 0);
        check.due("how many", x.saying(1, 0, 1), 32);
        Check.ward(x, "shut 0 s=1;shut 2 s=1;shut 4 s=1;shut 6 s=1;shut 8 s=1");
        check.due("all: the first", x.saying(1, 0, 0), 0);
        check.due("all", x.saying(1, 0, 1), 1024);
        check.terms("the first SIGN (0 .. 1023) for which it SHOWS just that WORD (-5: none); how many such there are");
        x.alter(1, 1);
        check.due("read as it, but not just it", x.saying(1, 1, 0), -5);
        x.alter(1, 0);
        check.due("just it, if read as another", x.saying(1, 1, 1), 1024);
    }

    private static void hoursRefused() {
        check.promise(15, "NONE");
        check.due("nobody, no words", new SignalBlind().hours(0, 0), NONE);
        SignalBlind x = two();
        for (int no : NO_TWO) {
            check.due("hours(" + no + ", 0)", x.hours(no, 0), NONE);
            check.due("hours(0, " + no + ")", x.hours(0, no), NONE);
        }
    }

    private static void hours() {
        check.promise(15, "HOURS (bits)");
        SignalBlind x = two();
        check.due("at all", x.hours(0, 0), DAY);
        check.due("at none", x.hours(1, 1), 0);
        check.terms("at which of the 24 HOURS from this one on (0: this one) it COMES through (bits)");
        Check.ward(x, "near 0;open 0 h=5");
        for (int hour = 0; hour < 50; hour++) {
            check.due("not at 5, from " + hour, x.hours(0, 0), DAY - (1 << (29 - hour % 24) % 24));
            check.due("a HALF shuts all but slat 0, from " + hour, x.hours(1, 0), x.hours(0, 0));
            x.pass(1);
        }
        Check.ward(x, "near 0;open 0 h<23");
        x.pass(22);
        check.due("the last of the 24 alone", x.told(0) % 24, 0);
        check.due("at 23", x.hours(0, 0), 1 << 23);
        x.pass(1);
        check.due("a 25th would be this one's", x.hours(0, 0), 1 << 22);
    }

    private static void hoursByWind() {
        check.terms("at which of the 24 HOURS from this one on (0: this one) it COMES through (bits)");
        SignalBlind x = new SignalBlind();
        x.word(2);
        x.sender(5, 0);
        Check.ward(x, "near 0");
        for (int k = 0; k < 166; k++) {
            x.pass(60);
        }
        x.pass(39);
        check.due("behind the last HOUR it goes on", x.hours(0, 0), 0x555555);
        check.due("none went", x.told(0), 9999);
    }

    private static void senders() {
        check.promise(16, "NONE");
        check.due("no words", new SignalBlind().senders(0, 0), NONE);
        SignalBlind x = two();
        for (int no : NO_TWO) {
            check.due("senders(" + no + ", 0)", x.senders(no, 0), NONE);
            check.due("NONE ahead of BAD", x.senders(no, 1024), NONE);
        }
        check.promise(16, "BAD: sign");
        for (int no : NO_SIGNS) {
            check.due("senders(0, " + no + ")", x.senders(0, no), BAD);
            check.due("senders(1, " + no + ")", x.senders(1, no), BAD);
        }
        check.promise(16, "SENDERS (bits)");
        check.due("the least sign: all", x.senders(0, 0), 3);
        check.due("the greatest sign: the first", x.senders(1, 1023), 1);
        check.due("the second", x.senders(1, 341), 2);
        check.due("nobody shows it", x.senders(1, 0), 0);
        SignalBlind y = new SignalBlind();
        y.word(9);
        check.due("there is nobody", y.senders(0, 9), 0);
        check.due("there is nobody, BAD", y.senders(0, 1024), BAD);
        for (int k = 0; k < 5; k++) {
            y.sender(0, k);
            check.due("all of " + (k + 1), y.senders(0, 9), (2 << k) - 1);
        }
        Check.ward(y, "open 9 s<4");
        check.due("the fifth", y.senders(0, 9), 16);
    }

    private static void meant() {
        check.promise(17, "NONE");
        check.due("nobody", new SignalBlind().meant(0, 0), NONE);
        SignalBlind x = two();
        for (int no : NO_TWO) {
            check.due("meant(" + no + ", 0)", x.meant(no, 0), NONE);
            check.due("NONE ahead of BAD", x.meant(no, 1024), NONE);
        }
        check.promise(17, "BAD: sign");
        for (int no : NO_SIGNS) {
            check.due("meant(0, " + no + ")", x.meant(0, no), BAD);
            check.due("meant(1, " + no + ")", x.meant(1, no), BAD);
        }
        check.promise(17, "MEANT (bits)");
        check.due("the least sign", x.meant(0, 0), 1);
        check.due("the greatest sign", x.meant(0, 1023), 2);
        check.due("none", x.meant(0, 1), 0);
        check.due("just the sign, not what it is read as", x.meant(1, 1023), 0);
        SignalBlind y = new SignalBlind();
        y.sender(1, 0);
        check.due("no words", y.meant(0, 0), 0);
        check.due("no words, BAD", y.meant(0, -1), BAD);
        for (int k = 0; k < 8; k++) {
            y.word(512);
            check.due("all of " + (k + 1), y.meant(0, 1), (2 << k) - 1);
        }
        for (int k = 0; k < 7; k++) {
            y.alter(k, 0);
        }
        check.due("the eighth", y.meant(0, 1), 128);
    }

    private static void passedRefused() {
        check.promise(18, "NONE: word, k (-1 .. 4)");
        check.due("no words", new SignalBlind().passed(0, 0), NONE);
        SignalBlind x = two();
        for (int no : NO_TWO) {
            for (int k = -2; k < 6; k++) {
                check.due("passed(" + no + ", " + k + ")", x.passed(no, k), NONE);
            }
        }
        for (int no : new int[] {-2, 5, MIN, MAX}) {
            check.due("passed(0, " + no + ")", x.passed(0, no), NONE);
            check.due("passed(1, " + no + ")", x.passed(1, no), NONE);
        }
    }

    private static void dueOrder(SignalBlind x, int word, int far, int... order) {
        check.due("how much", x.passed(word, -1), far);
        for (int k = 0; k < 5; k++) {
            check.due("the " + k + "-th", x.passed(word, k), k < order.length ? order[k] : -5);
        }
    }

    private static void passedByFewer() {
        check.promise(18, "k -1 how much, else the k-th (-5: there are fewer)");
        SignalBlind x = new SignalBlind();
        x.word(0);
        dueOrder(x, 0, 0);
        for (int k = 0; k < 5; k++) {
            x.sender(3, k);
            int[] order = {0, 1, 2, 3, 4};
            dueOrder(x, 0, k + 1, java.util.Arrays.copyOf(order, k + 1));
        }
        SignalBlind y = new SignalBlind();
        y.word(341);
        y.sender(1, 0);
        dueOrder(y, 0, 10, 0);
        check.promise(18, "NONE: word, k (-1 .. 4)");
        check.due("five and no sixth", x.passed(0, 5), NONE);
    }

    private static void passedByTies() {
        check.terms("that by which what is SHOWN in the end is least APART from it (of several the first as a row of numbers)");
        SignalBlind x = new SignalBlind();
        x.word(4);
        x.sender(1, 0);
        x.sender(2, 0);
        x.sender(0, 0);
        dueOrder(x, 0, 1, 0, 1, 2);
        x.alter(0, 2);
        dueOrder(x, 0, 1, 1, 0, 2);
        x.alter(0, 1);
        dueOrder(x, 0, 1, 0, 1, 2);
        x.alter(0, 0);
        dueOrder(x, 0, 0, 0, 1, 2);
        // The third opens slat 9, the TILTED one brings it to 0 and 0 to 1, the HALF shuts 1.
        Check.ward(x, "open 9 s=2&o=1;shut 9 s=1&o=2");
        x.alter(0, 1);
        dueOrder(x, 0, 0, 2, 0, 1);
        SignalBlind y = new SignalBlind();
        y.word(341);
        y.sender(0, 0);
        y.sender(1, 0);
        y.sender(0, 0);
        dueOrder(y, 0, 10, 0, 1, 2);
    }

    // The only order of all 120 by which 129 comes back: TILTED, NURSE (3), HALF, NURSE (1), SISTER.
    private static void passedByTheLastOrder() {
        check.terms("of all orders of all SENDERS, each SHOWING what the one ahead of it SHOWED");
        SignalBlind x = new SignalBlind();
        x.word(0);
        x.word(129);
        int[] kinds = {4, 3, 2, 3, 1};
        for (int k = 0; k < 5; k++) {
            x.sender(kinds[k], k);
        }
        dueOrder(x, 1, 0, 4, 3, 2, 1, 0);
        int sign = 129;
        for (int k = 4; k >= 0; k--) {
            sign = x.shows(k, sign);
        }
        check.due("by hand", sign, 129);
    }

    /** How many senders, of which kinds, by which word: each made anew, as all orders take more calls than one object has. */
    private static SignalBlind some(int n, int which) {
        SignalBlind x = new SignalBlind();
        x.word(which * 389 % 1024);
        for (int k = 0; k < n; k++) {
            x.sender((which / 2 + k * (which + 3)) % 7, (which + 3 * k) % 10);
        }
        Check.ward(x, "turn 3 s=1&o>4;open 5 s=3;shut 2 o=5");
        return x;
    }

    private static void passedByAllOrders() {
        check.terms("of all orders of all SENDERS, each SHOWING what the one ahead of it SHOWED, that by which what is SHOWN in the end "
            + "is least APART from it (of several the first as a row of numbers)");
        for (int which = 0; which < 60; which++) {
            int n = 2 + which % 4;
            int[] best = new int[n];
            int least = 11;
            for (int row = 0; row < Math.pow(n, n); row++) {
                int[] order = order(row, n);
                if (order != null) {
                    SignalBlind x = some(n, which);
                    int sign = x.told(10);
                    for (int s : order) {
                        sign = x.shows(s, sign);
                    }
                    int far = Integer.bitCount(sign ^ x.told(10));
                    best = far < least ? order : best;
                    least = Math.min(far, least);
                }
            }
            dueOrder(some(n, which), 0, least, best);
        }
    }

    /** The row of n numbers below n that stands at a place among all such rows, if no number comes twice in it. */
    private static int[] order(int place, int n) {
        int[] order = new int[n];
        int seen = 0;
        for (int k = n - 1; k >= 0; k--) {
            order[k] = place % n;
            seen |= 1 << order[k];
            place /= n;
        }
        return seen == (1 << n) - 1 ? order : null;
    }
}
