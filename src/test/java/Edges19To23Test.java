/** Promises 19 (see) to 23 (mean), each sentence that names a limit, a refusal or an empty or full row. */
public final class Edges19To23Test {
    private static final Check check = new Check();
    private static final int NONE = -1, BAD = -2, FULL = -4;
    private static final long NO = Long.MIN_VALUE;
    private static final int MIN = Integer.MIN_VALUE, MAX = Integer.MAX_VALUE;
    private static final int[] NO_SIGNS = {-1, 1024, 1025, MIN, MAX};
    private static final int[] NO_TWO = {-1, 2, 8, MIN, MAX};

    public static void main(String[] args) {
        see();
        seeNone();
        canRefused();
        can();
        canByV();
        whenRefused();
        when();
        oddsRefused();
        odds();
        mean();
        check.covered(19, 23);
        check.end();
    }

    private static SignalBlind two() {
        SignalBlind x = new SignalBlind();
        x.word(0);
        x.word(1023);
        x.sender(0, 0);
        x.sender(3, 5);
        return x;
    }

    private static void see() {
        check.promise(19, "NONE");
        check.due("no words", new SignalBlind().see(0, 0), NONE);
        SignalBlind x = two();
        for (int no : new int[] {-2, 2, 8, MIN, MAX}) {
            check.due("see(" + no + ", 0)", x.see(no, 0), NONE);
            check.due("NONE ahead of BAD", x.see(no, 1024), NONE);
        }
        check.promise(19, "BAD: sign");
        for (int no : NO_SIGNS) {
            check.due("see(0, " + no + ")", x.see(0, no), BAD);
            check.due("see(1, " + no + ")", x.see(1, no), BAD);
        }
        check.due("none came", x.count(3), 0);
        check.promise(19, "FULL: 5");
        int[][] rows = {{0, 0}, {1, 1023}, {0, 0}, {1, 0}, {0, 1023}};
        for (int k = 0; k < 5; k++) {
            check.due("row " + k, x.see(rows[k][0], rows[k][1]), k + 1);
            check.due("how many", x.count(3), k + 1);
        }
        check.due("the sixth", x.see(0, 0), FULL);
        check.due("the sixth, the other word", x.see(1, 1023), FULL);
        check.due("NONE ahead of FULL", x.see(2, 0), NONE);
        check.due("BAD ahead of FULL", x.see(0, 1024), BAD);
        check.due("NONE ahead of all", x.see(-2, -1), NONE);
        check.due("how many", x.count(3), 5);
    }

    private static void seeNone() {
        check.promise(19, "(word -1: none then, 0, whatever the other is)");
        check.due("no words", new SignalBlind().see(-1, 0), 0);
        SignalBlind x = two();
        for (int sign : new int[] {0, 1023, -1, 1024, MIN, MAX}) {
            for (int k = 0; k < 5; k++) {
                x.see(0, 7);
            }
            check.due("none is as seen", x.can(0, 0), 0);
            check.due("see(-1, " + sign + ")", x.see(-1, sign), 0);
            check.due("how many", x.count(3), 0);
            check.due("none to be otherwise", x.can(0, 0), 10);
        }
        check.due("none of none", x.see(-1, 0), 0);
        check.due("the first again", x.see(1, 0), 1);
    }

    private static void canRefused() {
        check.promise(20, "NONE");
        check.due("nobody", new SignalBlind().can(0, 0), NONE);
        SignalBlind x = two();
        for (int no : NO_TWO) {
            check.due("can(" + no + ", 0)", x.can(no, 0), NONE);
            check.due("can(0, " + no + ")", x.can(0, no), NONE);
            check.due("can(1, " + no + ")", x.can(1, no), NONE);
        }
    }

    private static void dueCan(SignalBlind x, int sender, int many, int least) {
        check.due("can(" + sender + ", 0)", x.can(sender, 0), many);
        check.due("can(" + sender + ", 1)", x.can(sender, 1), least);
    }

    private static void can() {
        check.promise(20, "CAN: what 0 how many, 1 the least; -5.");
        SignalBlind x = two();
        dueCan(x, 0, 10, 0);
        dueCan(x, 1, 10, 0);
        x.see(0, 0);
        dueCan(x, 0, 10, 0);
        dueCan(x, 1, 0, -5);
        for (int v = 0; v < 10; v++) {
            x.see(-1, 0);
            x.see(0, 1 << v);
            dueCan(x, 0, 0, -5);
            dueCan(x, 1, 1, v);
            x.see(1, 1023 - (1 << v));
            dueCan(x, 1, 1, v);
        }
        check.due("its v is as it was", x.of(1, 1), 5);
        check.due("what it shows is as it was", x.shows(1, 0), 32);
    }

    private static void canByV() {
        check.terms("how many numbers v (0 .. 9) there are by which, were that its v, it SHOWS the SIGN for the WORD in each row of SEEN; the least (-5: none)");
        SignalBlind x = new SignalBlind();
        x.word(0);
        x.sender(0, 5);
        x.see(0, 1);
        Check.ward(x, "open 0 v>0");
        dueCan(x, 0, 9, 1);
        Check.ward(x, "open 0 v<9");
        dueCan(x, 0, 9, 0);
        Check.ward(x, "open 0 v=9");
        dueCan(x, 0, 1, 9);
        Check.ward(x, "open 0 v>9");
        dueCan(x, 0, 0, -5);
        Check.ward(x, "open 0 v>3&v<7");
        dueCan(x, 0, 3, 4);
        for (int k = 0; k < 3; k++) {
            x.see(0, 1);
        }
        dueCan(x, 0, 3, 4);
        x.see(0, 0);
        dueCan(x, 0, 0, -5);
        check.due("five rows, the fifth otherwise", x.count(3), 5);
        x.see(-1, 0);
        x.word(3);
        x.see(1, 3);
        dueCan(x, 0, 10, 0);
        x.alter(1, 2);
        dueCan(x, 0, 3, 4);
        SignalBlind y = new SignalBlind();
        y.word(0);
        y.sender(6, 5);
        y.row(0, 1, 9);
        y.see(0, 8);
        dueCan(y, 0, 1, 3);
        y.pass(1);
        dueCan(y, 0, 1, 0);
        y.alter(0, 1);
        dueCan(y, 0, 0, -5);
        y.see(-1, 0);
        y.see(0, 0);
        dueCan(y, 0, 1, 3);
    }

    private static void whenRefused() {
        check.promise(21, "NONE");
        check.due("nobody", new SignalBlind().when(0, 0), NONE);
        SignalBlind x = two();
        for (int no : NO_TWO) {
            check.due("when(" + no + ", 0)", x.when(no, 0), NONE);
            check.due("when(0, " + no + ")", x.when(0, no), NONE);
            check.due("when(1, " + no + ")", x.when(1, no), NONE);
        }
    }

    private static void dueWhen(SignalBlind x, int sender, int many, int first) {
        check.due("when(" + sender + ", 0)", x.when(sender, 0), many);
        check.due("when(" + sender + ", 1)", x.when(sender, 1), first);
    }

    private static void when() {
        check.promise(21, "WHEN: what 0 how many, 1 the first; -5.");
        SignalBlind x = two();
        dueWhen(x, 0, 24, 0);
        x.see(0, 0);
        dueWhen(x, 0, 24, 0);
        dueWhen(x, 1, 0, -5);
        check.terms("how many of the 24 HOURS from this one on there are at which likewise; the first, counted from this one (0: this one; -5: none)");
        Check.ward(x, "open 0 h<7|h>7");
        for (int hour = 0; hour < 50; hour++) {
            dueWhen(x, 0, 1, (31 - hour % 24) % 24);
            x.pass(1);
        }
        Check.ward(x, "open 0 h=7");
        for (int hour = 50; hour < 60; hour++) {
            dueWhen(x, 0, 23, hour % 24 == 7 ? 1 : 0);
            x.pass(1);
        }
        Check.ward(x, "open 0 h<24");
        dueWhen(x, 0, 0, -5);
        SignalBlind y = new SignalBlind();
        y.word(2);
        y.sender(5, 0);
        y.see(0, 2);
        for (int k = 0; k < 166; k++) {
            y.pass(60);
        }
        dueWhen(y, 0, 12, 1);
        y.pass(39);
        dueWhen(y, 0, 12, 0);
        y.see(0, 0);
        dueWhen(y, 0, 0, -5);
        check.due("none went", y.told(0), 9999);
    }

    private static void oddsRefused() {
        check.promise(22, "NO: sender, word, part");
        check.due("nobody, no words", new SignalBlind().odds(0, 0, 0), NO);
        SignalBlind x = two();
        for (int no : NO_TWO) {
            check.due("odds(" + no + ", 0, 0)", x.odds(no, 0, 0), NO);
            check.due("odds(0, " + no + ", 1)", x.odds(0, no, 1), NO);
            check.due("odds(1, 1, " + no + ")", x.odds(1, 1, no), NO);
        }
    }

    private static void dueOdds(SignalBlind x, int word, int above, int below) {
        check.due("odds(0, " + word + ", 0)", x.odds(0, word, 0), above);
        check.due("odds(0, " + word + ", 1)", x.odds(0, word, 1), below);
    }

    private static void odds() {
        check.promise(22, "part 0 above, 1 below the line");
        check.terms("how likely it is READ as that WORD: a fraction in lowest terms");
        int[] below = {1, 10, 5, 10, 5, 2, 5, 10, 5, 10, 1};
        int[] above = {0, 1, 1, 3, 2, 1, 3, 7, 4, 9, 1};
        for (int right = 0; right <= 10; right++) {
            SignalBlind x = new SignalBlind();
            x.word(0);
            x.sender(0, 0);
            if (right == 1 || right == 2) {
                // One slat away from one that is wrong already: by that alone, or by one of two, it is right.
                Check.ward(x, right == 1 ? "near 0;open 9 s=0" : "near 1;open 9 s=0;open 8 s=0");
            } else {
                Check.ward(x, right == 0 ? "near 0" : "near 1");
                for (int k = 0; k < Math.min(10 - right, 7); k++) {
                    x.word(1 << k);
                }
            }
            dueOdds(x, 0, above[right], below[right]);
        }
        SignalBlind y = two();
        Check.ward(y, "near 1");
        check.due("the last sender, the last word", y.odds(1, 1, 0), 1);
        check.due("by the one slat of ten", y.odds(1, 1, 1), 10);
    }

    private static void mean() {
        check.promise(23, "MEAN; part likewise. NO.");
        SignalBlind x = new SignalBlind();
        for (int no : new int[] {-1, 0, 1, 2, MIN, MAX}) {
            check.due("no words: mean(" + no + ")", x.mean(no), NO);
        }
        x.word(0);
        for (int no : new int[] {-1, 2, MIN, MAX}) {
            check.due("mean(" + no + ")", x.mean(no), NO);
        }
        check.terms("how many SLATS are open in all WORDS, together, by how many they are: a fraction in lowest terms (NO: there are none)");
        dueMean(x, 0, 1);
        x.alter(0, 1023);
        dueMean(x, 10, 1);
        x.word(0);
        dueMean(x, 5, 1);
        x.word(0);
        dueMean(x, 10, 3);
        x.word(0);
        dueMean(x, 5, 2);
        x.word(0);
        dueMean(x, 2, 1);
        x.word(3);
        dueMean(x, 2, 1);
        x.word(3);
        dueMean(x, 2, 1);
        x.word(0);
        dueMean(x, 7, 4);
        x.alter(1, 1);
        dueMean(x, 15, 8);
        x.alter(1, 3);
        dueMean(x, 2, 1);
        for (int w = 0; w < 8; w++) {
            x.alter(w, 1023);
        }
        dueMean(x, 10, 1);
        for (int w = 0; w < 8; w++) {
            x.alter(w, w == 7 ? 16 : 0);
        }
        dueMean(x, 1, 8);
    }

    private static void dueMean(SignalBlind x, int above, int below) {
        check.due("mean(0)", x.mean(0), above);
        check.due("mean(1)", x.mean(1), below);
    }
}
