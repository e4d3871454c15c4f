/** Promises 24 (relay), 25 (ends), 26 (book), 27 (looked), 28 (judge). */
public final class RelayTest {
    private static final Check check = new Check();

    public static void main(String[] args) {
        relay();
        ends();
        book();
        judge();
        judgeNothing();
        check.end();
    }

    private static void relay() {
        SignalBlind x = new SignalBlind();
        check.due("no such sender", x.relay(0), SignalBlind.NONE);
        check.due("an hour needs no sender", x.relay(5), 1);
        check.due("relay(6)", x.relay(6), SignalBlind.NONE);
        check.due("relay(-2)", x.relay(-2), SignalBlind.NONE);
        x.sender(0, 0);
        check.due("relay(1)", x.relay(1), SignalBlind.NONE);
        for (int k = 2; k <= 8; k++) {
            check.due("relay(0)", x.relay(0), k);
        }
        check.due("the ninth", x.relay(0), SignalBlind.FULL);
        check.due("the ninth, an hour", x.relay(5), SignalBlind.FULL);
        check.due("NONE is named first", x.relay(1), SignalBlind.NONE);
        check.due("count(4)", x.count(4), 8);
        check.due("empty then", x.relay(-1), 0);
        check.due("count(4)", x.count(4), 0);
    }

    private static void ends() {
        SignalBlind x = new SignalBlind();
        x.word(3);
        x.word(3 + 256);
        x.sender(5, 0);
        x.sender(1, 0);
        x.sender(3, 9);
        check.due("no relay: the word", x.ends(0, 0), 3);
        check.due("no relay: read as it", x.ends(0, 1), 0);
        x.relay(0);
        check.due("an even hour", x.ends(0, 0), 1);
        x.relay(1);
        check.due("tilted", x.ends(0, 0), 2);
        x.relay(5);
        x.relay(0);
        check.due("an odd hour", x.ends(0, 0), 2);
        x.relay(1);
        check.due("tilted again", x.ends(0, 0), 4);
        x.relay(5);
        x.relay(0);
        check.due("an even hour again", x.ends(0, 0), 4);
        check.due("none is read", x.ends(0, 1), -5);
        x.relay(2);
        check.due("a nurse", x.ends(0, 0), 516);
        check.due("ends(2, 0)", x.ends(2, 0), SignalBlind.NONE);
        check.due("ends(-1, 0)", x.ends(-1, 0), SignalBlind.NONE);
        check.due("ends(0, 2)", x.ends(0, 2), SignalBlind.NONE);
        check.due("ends(0, -1)", x.ends(0, -1), SignalBlind.NONE);
        check.due("no hour went", x.told(0), 0);
        check.due("nothing was sent", x.of(0, 2), 0);
        x.relay(-1);
        x.relay(2);
        check.due("a nurse alone: read as the other", x.ends(1, 1), 1);
        x.pass(1);
        x.relay(0);
        check.due("by the hour that is", x.ends(0, 0), 515);
    }

    private static void book() {
        SignalBlind x = new SignalBlind();
        check.due("no such word", x.book(0, 0), SignalBlind.NONE);
        x.word(7);
        x.word(1023);
        check.due("book(2, 1024)", x.book(2, 1024), SignalBlind.NONE);
        check.due("book(-2, 0)", x.book(-2, 0), SignalBlind.NONE);
        check.due("book(0, 1024)", x.book(0, 1024), SignalBlind.BAD);
        check.due("book(0, -1)", x.book(0, -1), SignalBlind.BAD);
        check.due("nothing to look at", x.looked(), -5);
        check.due("book(0, 7)", x.book(0, 7), 1);
        check.due("as told", x.looked(), -5);
        check.due("book(1, 1023)", x.book(1, 1023), 2);
        check.due("book(1, 1022)", x.book(1, 1022), 3);
        check.due("the third is otherwise", x.looked(), 2);
        x.alter(1, 1022);
        check.due("the second is otherwise now", x.looked(), 1);
        x.alter(0, 6);
        check.due("the first is otherwise now", x.looked(), 0);
        for (int k = 4; k <= 8; k++) {
            check.due("book", x.book(1, 1), k);
        }
        check.due("the ninth", x.book(1, 1), SignalBlind.FULL);
        check.due("BAD is named first", x.book(1, -1), SignalBlind.BAD);
        check.due("count(5)", x.count(5), 8);
        check.due("empty then", x.book(-1, -7), 0);
        check.due("count(5)", x.count(5), 0);
        check.due("nothing to look at again", x.looked(), -5);
    }

    private static void judge() {
        SignalBlind x = new SignalBlind();
        x.word(7);
        x.word(1023);
        x.word(0);
        x.tape(0, 1, 5);
        x.item(0, 0, 7);
        x.item(0, 1, 1023);
        check.due("all as told", x.judge(0, 0), -5);
        x.item(0, 2, 1);
        check.due("the third is otherwise", x.judge(0, 0), 2);
        x.item(0, 2, 7);
        x.item(0, 3, 1023);
        check.due("from 2 on", x.judge(0, 2), -5);
        check.due("from 1 on", x.judge(0, 1), 0);
        x.item(0, 3, 7);
        x.item(0, 4, 1023);
        check.due("it ends ahead of the third", x.judge(0, 3), 102);
        x.item(0, 4, 7);
        check.due("it ends ahead of the second", x.judge(0, 4), 101);
        check.due("it ends ahead of all", x.judge(0, 5), 100);
        check.due("the place is behind the end", x.judge(0, 6), 100);
        check.due("the place is far behind", x.judge(0, Integer.MAX_VALUE), 100);
        check.due("the place is below 0", x.judge(0, -1), 100);
        check.due("the place is far below 0", x.judge(0, Integer.MIN_VALUE), 100);
        check.due("a tape that holds nothing", x.judge(1, 0), 100);
        x.tape(2, 0, 5);
        check.due("bytes", x.judge(2, 0), -12);
        x.tape(2, 2, 5);
        check.due("ints", x.judge(2, -1), -12);
        x.tape(2, 3, 0);
        check.due("longs", x.judge(2, 9), -12);
        x.tape(2, 4, 1);
        check.due("booleans", x.judge(2, 0), -12);
        x.tape(2, 1, 0);
        check.due("no shorts", x.judge(2, 0), 100);
        check.due("judge(-1, 0)", x.judge(-1, 0), SignalBlind.NONE);
        check.due("judge(6, 0)", x.judge(6, 0), SignalBlind.NONE);
    }

    private static void judgeNothing() {
        SignalBlind x = new SignalBlind();
        x.tape(0, 1, 2);
        x.tape(1, 2, 2);
        check.due("no words", x.judge(0, 0), -5);
        check.due("no words, at the end", x.judge(0, 2), -5);
        check.due("no words, another sort", x.judge(1, 0), -12);
    }
}
