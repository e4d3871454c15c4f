/** Promises 24 (relay) to 28 (judge), each sentence that names a limit, a refusal or an empty or full row. */
public final class Edges24To28Test {
    private static final Check check = new Check();
    private static final int NONE = -1, BAD = -2, FULL = -4, CAST = -12;
    private static final int MIN = Integer.MIN_VALUE, MAX = Integer.MAX_VALUE;
    private static final int[] NO_SIGNS = {-1, 1024, 1025, MIN, MAX};
    private static final int[] NO_TWO = {-1, 2, 8, MIN, MAX};

    public static void main(String[] args) {
        relay();
        relayEmpty();
        endsRefused();
        endsOfNone();
        ends();
        book();
        bookEmpty();
        looked();
        judgeRefused();
        judgeCast();
        judgeNone();
        judgeOtherwise();
        judgeEnds();
        check.covered(24, 28);
        check.end();
    }

    private static SignalBlind two() {
        SignalBlind x = new SignalBlind();
        x.word(0);
        x.word(1023);
        x.sender(1, 0);
        x.sender(3, 9);
        return x;
    }

    private static void relay() {
        check.promise(24, "NONE");
        SignalBlind x = new SignalBlind();
        for (int no : new int[] {-2, 0, 1, 4, 6, MIN, MAX}) {
            check.due("nobody: relay(" + no + ")", x.relay(no), NONE);
        }
        check.promise(24, "5: an HOUR");
        check.due("an hour needs nobody", x.relay(5), 1);
        x.sender(0, 0);
        x.sender(0, 0);
        check.promise(24, "NONE");
        for (int no : new int[] {-2, 2, 3, 4, 6, MIN, MAX}) {
            check.due("two: relay(" + no + ")", x.relay(no), NONE);
        }
        check.due("how many", x.count(4), 1);
        check.promise(24, "A row comes to the RELAY: how many there are");
        check.due("the first", x.relay(0), 2);
        check.due("the last", x.relay(1), 3);
        check.due("the last again", x.relay(1), 4);
        check.promise(24, "FULL: 8");
        for (int k = 5; k <= 8; k++) {
            check.due("row " + k, x.relay(k % 2 == 0 ? 5 : 0), k);
            check.due("how many", x.count(4), k);
        }
        check.due("the ninth", x.relay(0), FULL);
        check.due("the ninth, an hour", x.relay(5), FULL);
        check.due("NONE ahead of FULL", x.relay(2), NONE);
        check.due("NONE ahead of FULL: 6", x.relay(6), NONE);
        check.due("NONE ahead of FULL: -2", x.relay(-2), NONE);
        check.due("how many", x.count(4), 8);
    }

    private static void relayEmpty() {
        check.promise(24, "(sender -1: it is empty then, 0; ");
        check.due("of none", new SignalBlind().relay(-1), 0);
        SignalBlind x = two();
        for (int k = 0; k < 8; k++) {
            x.relay(0);
        }
        check.due("eight places on", x.ends(1, 0), 1023);
        x.alter(0, 1);
        check.due("eight places on", x.ends(0, 0), 256);
        check.due("of eight", x.relay(-1), 0);
        check.due("how many", x.count(4), 0);
        check.due("the word itself", x.ends(0, 0), 1);
        check.due("of none", x.relay(-1), 0);
        check.due("the first again", x.relay(0), 1);
        check.due("one place on", x.ends(0, 0), 2);
    }

    private static void endsRefused() {
        check.promise(25, "NONE");
        check.due("no words", new SignalBlind().ends(0, 0), NONE);
        SignalBlind x = two();
        for (int no : NO_TWO) {
            check.due("ends(" + no + ", 0)", x.ends(no, 0), NONE);
            check.due("ends(0, " + no + ")", x.ends(0, no), NONE);
            check.due("ends(1, " + no + ")", x.ends(1, no), NONE);
        }
    }

    private static void endsOfNone() {
        check.promise(25, "ENDS: what 0 the SIGN, 1 what it is READ as (-5).");
        check.terms("the SIGN that is SHOWN by the last, each SHOWING what the one ahead of it SHOWED (the WORD, if there is none)");
        SignalBlind x = two();
        check.due("no rows: the least", x.ends(0, 0), 0);
        check.due("no rows: the greatest", x.ends(1, 0), 1023);
        check.due("no rows: read", x.ends(1, 1), 1);
        x.relay(5);
        x.relay(5);
        check.due("hours alone", x.ends(1, 0), 1023);
        check.due("hours alone: read", x.ends(1, 1), 1);
        check.due("none went", x.told(0), 0);
        SignalBlind y = new SignalBlind();
        y.word(77);
        check.due("nobody", y.ends(0, 0), 77);
        y.word(77);
        check.due("nobody: of two alike the first", y.ends(1, 1), 0);
    }

    private static void ends() {
        check.promise(25, "ENDS: what 0 the SIGN, 1 what it is READ as (-5).");
        SignalBlind x = two();
        x.alter(1, 7);
        x.relay(1);
        check.due("the last sender", x.ends(0, 0), 512);
        check.due("it is read", x.ends(0, 1), 0);
        x.relay(0);
        check.due("slat 9 goes round", x.ends(0, 0), 1);
        x.relay(1);
        x.relay(0);
        x.relay(1);
        check.due("three slats", x.ends(0, 0), 515);
        check.due("read as the other", x.ends(0, 1), 1);
        Check.ward(x, "near 1");
        check.due("none", x.ends(0, 1), -5);
        SignalBlind y = new SignalBlind();
        y.word(1023);
        y.sender(5, 0);
        y.sender(6, 9);
        y.row(1, 1, 2);
        y.row(1, 3, 4);
        y.row(1, 0, 1);
        y.relay(5);
        y.relay(0);
        check.due("a WIND at an odd hour", y.ends(0, 0), 1023);
        y.relay(1);
        check.due("a TOLD at that", y.ends(0, 0), 511 - 2);
        y.relay(5);
        y.relay(5);
        y.relay(1);
        check.due("at the third", y.ends(0, 0), 1023 - 2 - 4);
        y.relay(5);
        y.relay(1);
        check.due("eight rows, at the fourth", y.ends(0, 0), 511 - 2 - 4 - 1);
        check.due("no ninth", y.relay(0), FULL);
        y.pass(1);
        check.due("by the HOUR that is", y.ends(0, 0), 341 + 512 - 1 + 2);
        SignalBlind z = new SignalBlind();
        z.word(1023);
        z.sender(5, 0);
        for (int k = 0; k < 166; k++) {
            z.pass(60);
        }
        z.pass(39);
        z.relay(0);
        check.due("at HOUR 9999", z.ends(0, 0), 1023);
        z.relay(5);
        z.relay(0);
        check.due("behind it", z.ends(0, 0), 341);
        check.due("none went", z.told(0), 9999);
    }

    private static void book() {
        check.promise(26, "NONE");
        check.due("no words", new SignalBlind().book(0, 0), NONE);
        SignalBlind x = two();
        for (int no : new int[] {-2, 2, 8, MIN, MAX}) {
            check.due("book(" + no + ", 0)", x.book(no, 0), NONE);
            check.due("NONE ahead of BAD", x.book(no, 1024), NONE);
        }
        check.promise(26, "BAD: sign");
        for (int no : NO_SIGNS) {
            check.due("book(0, " + no + ")", x.book(0, no), BAD);
            check.due("book(1, " + no + ")", x.book(1, no), BAD);
        }
        check.due("none came", x.count(5), 0);
        check.promise(26, "FULL: 8");
        for (int k = 0; k < 8; k++) {
            check.due("row " + k, x.book(k % 2, k % 2 == 0 ? 0 : 1023), k + 1);
            check.due("how many", x.count(5), k + 1);
        }
        check.due("the ninth", x.book(0, 0), FULL);
        check.due("the ninth, the other word", x.book(1, 0), FULL);
        check.due("NONE ahead of FULL", x.book(2, 0), NONE);
        check.due("BAD ahead of FULL", x.book(0, 1024), BAD);
        check.due("how many", x.count(5), 8);
        check.due("they are as they were", x.looked(), -5);
    }

    private static void bookEmpty() {
        check.promise(26, "(word -1: it is empty then, 0, whatever the other is)");
        check.due("no words", new SignalBlind().book(-1, 0), 0);
        SignalBlind x = two();
        for (int sign : new int[] {0, 1023, -1, 1024, MIN, MAX}) {
            for (int k = 0; k < 8; k++) {
                x.book(0, 7);
            }
            check.due("otherwise", x.looked(), 0);
            check.due("book(-1, " + sign + ")", x.book(-1, sign), 0);
            check.due("how many", x.count(5), 0);
            check.due("none", x.looked(), -5);
        }
        check.due("of none", x.book(-1, 0), 0);
        check.due("the first again", x.book(1, 0), 1);
    }

    private static void looked() {
        check.promise(27, "LOOKED at; -5.");
        SignalBlind x = two();
        check.due("no rows", x.looked(), -5);
        check.terms("the number of the first of these rows by which it is otherwise now (-5: none)");
        for (int k = 0; k < 7; k++) {
            x.book(0, 0);
            check.due("as told", x.looked(), -5);
        }
        x.book(1, 1022);
        check.due("the eighth", x.looked(), 7);
        x.alter(1, 1022);
        check.due("it is so now", x.looked(), -5);
        x.alter(0, 1);
        check.due("the first", x.looked(), 0);
        x.book(-1, 0);
        x.book(0, 1);
        x.book(0, 2);
        x.book(0, 1);
        x.book(0, 2);
        check.due("of several the first", x.looked(), 1);
        SignalBlind y = new SignalBlind();
        for (int k = 0; k < 8; k++) {
            y.word(1023);
        }
        y.book(7, 1023);
        check.due("the eighth word, the greatest sign", y.looked(), -5);
        y.alter(7, 0);
        check.due("it is otherwise", y.looked(), 0);
    }

    private static SignalBlind judged(int... shorts) {
        SignalBlind x = new SignalBlind();
        x.word(7);
        x.word(1023);
        x.word(0);
        x.tape(0, 1, shorts.length);
        for (int k = 0; k < shorts.length; k++) {
            x.item(0, k, shorts[k]);
        }
        return x;
    }

    private static void judgeRefused() {
        check.promise(28, "NONE: tape");
        SignalBlind x = judged(7, 1023, 0);
        for (int no : new int[] {-1, 6, MIN, MAX}) {
            check.due("judge(" + no + ", 0)", x.judge(no, 0), NONE);
            check.due("no words: judge(" + no + ", 0)", new SignalBlind().judge(no, 0), NONE);
        }
        x.tape(5, 1, 3);
        x.item(5, 0, 7);
        check.due("the last tape", x.judge(5, 0), 1);
        check.due("the first tape", x.judge(0, 0), -5);
    }

    private static void judgeCast() {
        check.promise(28, "CAST: it is no row of shorts");
        for (int sort = 0; sort < 5; sort++) {
            SignalBlind x = judged();
            for (int n = 0; n < 5; n += 2) {
                x.tape(1, sort, n);
                for (int i = -1; i < 6; i++) {
                    int want = sort != 1 ? CAST : i < 0 || i >= n ? 100 : 0;
                    check.due("sort " + sort + ", " + n + ": judge(1, " + i + ")", x.judge(1, i), want);
                }
            }
            SignalBlind y = new SignalBlind();
            y.tape(1, sort, 0);
            check.due("sort " + sort + ", no words", y.judge(1, 0), sort == 1 ? -5 : CAST);
        }
    }

    private static void judgeNone() {
        check.promise(28, "JUDGED from place i of a TAPE on.");
        check.terms("the first that is otherwise; -5: none, or there is none to look at");
        check.due("all are so", judged(7, 1023, 0).judge(0, 0), -5);
        check.due("just to the end", judged(1, 1, 7, 1023, 0).judge(0, 2), -5);
        check.due("more behind", judged(7, 1023, 0, 5).judge(0, 0), -5);
        SignalBlind x = new SignalBlind();
        check.due("no words, no tape", x.judge(0, 0), -5);
        x.tape(0, 1, 1);
        check.due("no words", x.judge(0, 0), -5);
        check.due("no words, at the end", x.judge(0, 1), -5);
        SignalBlind y = new SignalBlind();
        y.tape(0, 1, 60);
        for (int k = 0; k < 8; k++) {
            y.word(k + 1);
            y.item(0, 52 + k, k + 1);
        }
        check.due("eight to the end of sixty", y.judge(0, 52), -5);
        check.due("one place on", y.judge(0, 53), 0);
        y.alter(7, 9);
        check.due("the eighth is otherwise", y.judge(0, 52), 7);
    }

    private static void judgeOtherwise() {
        check.terms("WORDS told by a row of shorts, from a place on, one by one, are JUDGED: the first that is otherwise");
        check.due("the first", judged(6, 1023, 0).judge(0, 0), 0);
        check.due("the second", judged(7, 1022, 1).judge(0, 0), 1);
        check.due("the third", judged(7, 1023, 1).judge(0, 0), 2);
        check.due("below 0", judged(7, 1023, -1).judge(0, 0), 2);
        check.due("by its lowest bits", judged(7 + 65536, 1023, 0).judge(0, 0), -5);
        check.due("by its lowest bits: below 0", judged(7 - 32768, 1023, 0).judge(0, 0), 0);
        check.due("ahead of the end", judged(7, 1022).judge(0, 0), 1);
    }

    private static void judgeEnds() {
        check.terms("100 and how many were looked at, if the row ends ahead of that (or the place is below 0, or the TAPE holds nothing)");
        check.due("two looked at", judged(7, 1023).judge(0, 0), 102);
        check.due("one looked at", judged(7).judge(0, 0), 101);
        check.due("none of it", judged().judge(0, 0), 100);
        check.due("two, from a place on", judged(3, 7, 1023).judge(0, 1), 102);
        check.due("at the end", judged(7, 1023).judge(0, 2), 100);
        check.due("behind the end", judged(7, 1023).judge(0, 3), 100);
        check.due("far behind", judged(7, 1023).judge(0, MAX), 100);
        check.due("just below 0", judged(7, 7, 1023, 0).judge(0, -1), 100);
        check.due("far below", judged(7, 1023, 0).judge(0, MIN), 100);
        check.due("a tape that holds nothing", judged(7, 1023, 0).judge(1, 0), 100);
        check.due("a tape that holds nothing, below 0", judged(7, 1023, 0).judge(1, -1), 100);
        SignalBlind x = judged(7, 1023, 0);
        x.tape(0, -1, 0);
        check.due("a tape that holds nothing any more", x.judge(0, 0), 100);
        SignalBlind y = new SignalBlind();
        y.tape(0, 1, 60);
        for (int k = 0; k < 8; k++) {
            y.word(0);
        }
        check.due("seven of eight by the end of sixty", y.judge(0, 53), 107);
        check.due("the last of sixty", y.judge(0, 59), 101);
        check.due("behind sixty", y.judge(0, 60), 100);
    }
}
