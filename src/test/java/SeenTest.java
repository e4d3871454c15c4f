/** Promises 19 (see), 20 (can), 21 (when), 22 (odds). */
public final class SeenTest {
    private static final Check check = new Check();

    public static void main(String[] args) {
        see();
        can();
        when();
        odds();
        check.end();
    }

    private static void see() {
        SignalBlind x = new SignalBlind();
        check.due("no such word", x.see(0, 0), SignalBlind.NONE);
        x.word(3);
        check.due("see(1, 1024)", x.see(1, 1024), SignalBlind.NONE);
        check.due("see(-2, 0)", x.see(-2, 0), SignalBlind.NONE);
        check.due("see(0, 1024)", x.see(0, 1024), SignalBlind.BAD);
        check.due("see(0, -1)", x.see(0, -1), SignalBlind.BAD);
        for (int k = 1; k <= 5; k++) {
            check.due("see", x.see(0, 1023), k);
        }
        check.due("the sixth", x.see(0, 0), SignalBlind.FULL);
        check.due("BAD is named first", x.see(0, 1024), SignalBlind.BAD);
        check.due("count(3)", x.count(3), 5);
        check.due("none then", x.see(-1, 5000), 0);
        check.due("count(3)", x.count(3), 0);
        check.due("anew", x.see(0, 0), 1);
    }

    private static void can() {
        SignalBlind x = new SignalBlind();
        x.word(0);
        x.word(1);
        x.sender(3, 3);
        x.sender(0, 3);
        check.due("nothing is seen", x.can(0, 0), 10);
        check.due("nothing is seen: the least", x.can(0, 1), 0);
        x.see(0, 16);
        check.due("a nurse by slat 4", x.can(0, 0), 1);
        check.due("a nurse by slat 4: the least", x.can(0, 1), 4);
        check.due("not a sender", x.can(1, 0), 0);
        check.due("not a sender: none", x.can(1, 1), -5);
        Check.ward(x, "open 4 v>4");
        check.due("a sender by v", x.can(1, 0), 5);
        check.due("a sender by v: the least", x.can(1, 1), 5);
        check.due("still by 4", x.can(0, 1), 4);
        check.due("v is as it was", x.of(1, 1), 3);
        x.see(1, 17);
        check.due("both rows", x.can(1, 0), 5);
        x.see(1, 1);
        check.due("three rows, one otherwise", x.can(1, 0), 0);
        x.alter(1, 5);
        check.due("words as they are now", x.can(1, 0), 0);
        x.see(-1, 0);
        x.see(1, 21);
        check.due("words as they are now: 5", x.can(1, 0), 5);
        check.due("can(2, 0)", x.can(2, 0), SignalBlind.NONE);
        check.due("can(-1, 0)", x.can(-1, 0), SignalBlind.NONE);
        check.due("can(0, 2)", x.can(0, 2), SignalBlind.NONE);
        check.due("can(0, -1)", x.can(0, -1), SignalBlind.NONE);
    }

    private static void when() {
        SignalBlind x = new SignalBlind();
        x.word(3);
        x.sender(0, 0);
        x.sender(5, 0);
        check.due("nothing is seen", x.when(0, 0), 24);
        check.due("nothing is seen: the first", x.when(0, 1), 0);
        x.see(0, 1);
        check.due("never", x.when(0, 0), 0);
        check.due("never: none", x.when(0, 1), -5);
        check.due("at even hours", x.when(1, 0), 12);
        check.due("this one", x.when(1, 1), 0);
        x.pass(1);
        check.due("the next one", x.when(1, 1), 1);
        Check.ward(x, "shut 1 h=7");
        check.due("at 7", x.when(0, 0), 1);
        check.due("at 7: from 1", x.when(0, 1), 6);
        check.due("at 7 as well", x.when(1, 0), 13);
        x.pass(6);
        check.due("now", x.when(0, 1), 0);
        x.pass(1);
        check.due("not again for long", x.when(0, 1), 23);
        check.due("when(2, 0)", x.when(2, 0), SignalBlind.NONE);
        check.due("when(-1, 0)", x.when(-1, 0), SignalBlind.NONE);
        check.due("when(0, 2)", x.when(0, 2), SignalBlind.NONE);
        check.due("when(0, -1)", x.when(0, -1), SignalBlind.NONE);
    }

    private static void dueOdds(SignalBlind x, int word, long above, long below) {
        check.due("odds above of word " + word, x.odds(0, word, 0), above);
        check.due("odds below of word " + word, x.odds(0, word, 1), below);
    }

    private static void odds() {
        SignalBlind x = new SignalBlind();
        check.due("none", x.odds(0, 0, 0), SignalBlind.NO);
        x.word(0);
        x.sender(0, 0);
        dueOdds(x, 0, 1, 1);
        x.word(1);
        dueOdds(x, 0, 9, 10);
        dueOdds(x, 1, 9, 10);
        x.word(2);
        x.word(4);
        dueOdds(x, 0, 7, 10);
        x.word(8);
        x.word(16);
        dueOdds(x, 0, 1, 2);
        x.word(32);
        dueOdds(x, 0, 2, 5);
        dueOdds(x, 6, 2, 5);
        Check.ward(x, "near 0");
        dueOdds(x, 0, 0, 1);
        Check.ward(x, "near 1;open 9 s=0");
        dueOdds(x, 0, 1, 10);
        check.due("odds(1, 0, 0)", x.odds(1, 0, 0), SignalBlind.NO);
        check.due("odds(-1, 0, 0)", x.odds(-1, 0, 0), SignalBlind.NO);
        check.due("odds(0, 7, 0)", x.odds(0, 7, 0), SignalBlind.NO);
        check.due("odds(0, -1, 0)", x.odds(0, -1, 0), SignalBlind.NO);
        check.due("odds(0, 0, 2)", x.odds(0, 0, 2), SignalBlind.NO);
        check.due("odds(0, 0, -1)", x.odds(0, 0, -1), SignalBlind.NO);
    }
}
