/** Promises 35 (tape), 36 (item), 37 (read), 38 (shift). */
public final class TapeTest {
    private static final Check check = new Check();

    public static void main(String[] args) {
        tape();
        items();
        places();
        shift();
        shiftRefused();
        check.end();
    }

    private static void tape() {
        SignalBlind x = new SignalBlind();
        check.due("tape(-1, 0, 1)", x.tape(-1, 0, 1), SignalBlind.NONE);
        check.due("tape(6, 9, 99)", x.tape(6, 9, 99), SignalBlind.NONE);
        check.due("tape(0, -2, 1)", x.tape(0, -2, 1), SignalBlind.BAD);
        check.due("tape(0, 5, -1)", x.tape(0, 5, -1), SignalBlind.BAD);
        check.due("tape(0, 0, 61)", x.tape(0, 0, 61), SignalBlind.BAD);
        check.due("tape(0, 0, MAX)", x.tape(0, 0, Integer.MAX_VALUE), SignalBlind.BAD);
        check.due("tape(0, 0, -1)", x.tape(0, 0, -1), -14);
        check.due("tape(0, 0, MIN)", x.tape(0, 0, Integer.MIN_VALUE), -14);
        check.due("nothing is there", x.item(0, 0, 1), -11);
        check.due("tape(0, 3, 60)", x.tape(0, 3, 60), 1);
        check.due("the first is there", x.item(0, 0, 8), 1);
        check.due("the last is there", x.item(0, 59, 8), 1);
        check.due("and no more", x.item(0, 60, 8), -13);
        check.due("it is so", x.read(0, 59), 8);
        check.due("what is refused changes nothing", x.tape(0, 3, -1), -14);
        check.due("it is still so", x.read(0, 59), 8);
        check.due("anew", x.tape(0, 3, 60), 1);
        check.due("all 0", x.read(0, 59), 0);
        check.due("the first too", x.read(0, 0), 0);
        check.due("none of it", x.tape(0, 2, 0), 1);
        check.due("no place", x.read(0, 0), SignalBlind.NO);
        check.due("no place for an item", x.item(0, 0, 1), -13);
        check.due("holds nothing", x.tape(0, -1, -99), 1);
        check.due("nothing is there again", x.item(0, 0, 1), -11);
        check.due("nor to be read", x.read(0, 0), SignalBlind.NO);
    }

    private static void dueItem(int sort, long v, long want) {
        SignalBlind x = new SignalBlind();
        x.tape(5, sort, 1);
        check.due("item", x.item(5, 0, v), 1);
        check.due("sort " + sort + ", item " + v, x.read(5, 0), want);
    }

    private static void items() {
        dueItem(0, 127, 127);
        dueItem(0, 128, -128);
        dueItem(0, 0x1234567890L, -112);
        dueItem(0, -1, -1);
        dueItem(1, 32768, -32768);
        dueItem(1, -32769, 32767);
        dueItem(1, 65536, 0);
        dueItem(2, 2147483648L, -2147483648L);
        dueItem(2, 4294967296L, 0);
        dueItem(2, -5, -5);
        dueItem(3, Long.MAX_VALUE, Long.MAX_VALUE);
        dueItem(3, Long.MIN_VALUE, Long.MIN_VALUE);
        dueItem(4, 0, 0);
        dueItem(4, 1, 1);
        dueItem(4, -7, 1);
        dueItem(4, 4294967296L, 1);
    }

    private static void places() {
        SignalBlind x = new SignalBlind();
        x.tape(0, 2, 3);
        check.due("item(-1, 0, 0)", x.item(-1, 0, 0), SignalBlind.NONE);
        check.due("item(6, 0, 0)", x.item(6, 0, 0), SignalBlind.NONE);
        check.due("item(1, -1, 0)", x.item(1, -1, 0), -11);
        check.due("item(0, -1, 0)", x.item(0, -1, 0), -13);
        check.due("item(0, 3, 0)", x.item(0, 3, 0), -13);
        check.due("item(0, MAX, 0)", x.item(0, Integer.MAX_VALUE, 0), -13);
        check.due("read(-1, 0)", x.read(-1, 0), SignalBlind.NO);
        check.due("read(6, 0)", x.read(6, 0), SignalBlind.NO);
        check.due("read(0, -1)", x.read(0, -1), SignalBlind.NO);
        check.due("read(0, 3)", x.read(0, 3), SignalBlind.NO);
        check.due("read(1, 0)", x.read(1, 0), SignalBlind.NO);
    }

    private static SignalBlind counted() {
        SignalBlind x = new SignalBlind();
        x.tape(0, 2, 5);
        x.tape(1, 2, 3);
        for (int k = 0; k < 5; k++) {
            x.item(0, k, k + 1);
        }
        return x;
    }

    private static void dueRow(SignalBlind x, int tape, int... items) {
        for (int k = 0; k < items.length; k++) {
            check.due("read(" + tape + ", " + k + ")", x.read(tape, k), items[k]);
        }
    }

    private static void shift() {
        SignalBlind x = counted();
        check.due("to another", x.shift(0, 1, 1, 0, 3), 3);
        dueRow(x, 1, 2, 3, 4);
        dueRow(x, 0, 1, 2, 3, 4, 5);
        check.due("up, over itself", x.shift(0, 0, 0, 1, 4), 4);
        dueRow(x, 0, 1, 1, 2, 3, 4);
        x = counted();
        check.due("down, over itself", x.shift(0, 1, 0, 0, 4), 4);
        dueRow(x, 0, 2, 3, 4, 5, 5);
        check.due("none, at both ends", x.shift(0, 5, 1, 3, 0), 0);
        check.due("all, in place", x.shift(0, 0, 0, 0, 5), 5);
        dueRow(x, 0, 2, 3, 4, 5, 5);
        dueRow(x, 1, 0, 0, 0);
    }

    private static void shiftRefused() {
        SignalBlind x = counted();
        x.tape(2, 3, 5);
        check.due("shift(6, ..)", x.shift(6, 0, 0, 0, 1), SignalBlind.NONE);
        check.due("shift(-1, ..)", x.shift(-1, 0, 5, 0, 1), SignalBlind.NONE);
        check.due("to 6", x.shift(0, 0, 6, 0, 1), SignalBlind.NONE);
        check.due("to -1", x.shift(5, 0, -1, 0, 1), SignalBlind.NONE);
        check.due("from nothing", x.shift(5, -1, 0, 0, 1), -11);
        check.due("to nothing", x.shift(0, -1, 5, 0, 1), -11);
        check.due("unlike sorts", x.shift(0, 0, 2, 0, -1), -12);
        check.due("n below 0", x.shift(0, 0, 1, 0, -1), -13);
        check.due("i below 0", x.shift(0, -1, 1, 0, 1), -13);
        check.due("j below 0", x.shift(0, 0, 1, -1, 1), -13);
        check.due("beyond the end of the one", x.shift(0, 4, 1, 0, 2), -13);
        check.due("beyond the end of the other", x.shift(0, 0, 1, 2, 2), -13);
        check.due("none, beyond the end", x.shift(0, 6, 1, 0, 0), -13);
        check.due("none, beyond the other's end", x.shift(0, 0, 1, 4, 0), -13);
        check.due("far beyond", x.shift(0, Integer.MAX_VALUE, 1, 0, Integer.MAX_VALUE), -13);
        check.due("wrapped beyond", x.shift(0, 1, 1, 1, Integer.MAX_VALUE), -13);
        dueRow(x, 0, 1, 2, 3, 4, 5);
        dueRow(x, 1, 0, 0, 0);
    }
}
