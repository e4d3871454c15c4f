/** Promises 34 (count) to 38 (shift), each sentence that names a limit, a refusal or an empty or full row. */
public final class Edges34To38Test {
    private static final Check check = new Check();
    private static final int NONE = -1, BAD = -2, NOTHING = -11, CAST = -12, PLACE = -13, SIZE = -14;
    private static final long NO = Long.MIN_VALUE;
    private static final int MIN = Integer.MIN_VALUE, MAX = Integer.MAX_VALUE;

    public static void main(String[] args) {
        count();
        countFull();
        tapeRefused();
        tape();
        tapeOfNothing();
        itemRefused();
        item();
        itemBits();
        readRefused();
        read();
        shiftRefused();
        shiftPlace();
        shift();
        shiftOverItself();
        check.covered(34, 38);
        check.end();
    }

    private static void count() {
        check.promise(34, "BAD");
        SignalBlind x = new SignalBlind();
        for (int no : new int[] {-1, 8, 9, MIN, MAX}) {
            check.due("count(" + no + ")", x.count(no), BAD);
        }
        check.promise(34, "How many: 0 SENDERS, 1 WORDS, 2 WARDS, 3 SEEN, 4 of the RELAY, 5 of the BOOK, 6 bytes of THE TEXT, "
            + "7 bodies that ran in the latest act() (all, kept or not).");
        dueCounts(x, 0, 0, 0, 0, 0, 0, 0, 0);
        x.word(3);
        dueCounts(x, 0, 1, 0, 0, 0, 0, 0, 0);
        x.sender(6, 3);
        dueCounts(x, 1, 1, 0, 0, 0, 0, 0, 0);
        x.see(0, 3);
        dueCounts(x, 1, 1, 0, 1, 0, 0, 0, 0);
        x.relay(0);
        dueCounts(x, 1, 1, 0, 1, 1, 0, 0, 0);
        x.book(0, 3);
        dueCounts(x, 1, 1, 0, 1, 1, 1, 0, 0);
        x.feed('n');
        dueCounts(x, 1, 1, 0, 1, 1, 1, 1, 0);
        x.act(0, 2, 0);
        dueCounts(x, 1, 1, 0, 1, 1, 1, 1, 12);
        Check.ward(x, "ear 2");
        dueCounts(x, 1, 1, 1, 1, 1, 1, 0, 12);
        x.act(0, 0, 0);
        dueCounts(x, 1, 1, 1, 1, 1, 1, 0, 2);
        x.act(1, 0, 0);
        dueCounts(x, 1, 1, 1, 1, 1, 1, 0, 0);
    }

    private static void dueCounts(SignalBlind x, int... counts) {
        for (int what = 0; what < 8; what++) {
            check.due("count(" + what + ")", x.count(what), counts[what]);
        }
    }

    private static void countFull() {
        check.promise(34, "How many: 0 SENDERS, 1 WORDS, 2 WARDS, 3 SEEN, 4 of the RELAY, 5 of the BOOK, 6 bytes of THE TEXT");
        SignalBlind x = new SignalBlind();
        for (int k = 0; k < 9; k++) {
            x.word(k);
            x.sender(0, 0);
            x.see(0, 0);
            x.relay(0);
            x.book(0, 0);
            Check.ward(x, "near 1");
        }
        for (int k = 0; k < 101; k++) {
            x.feed('n');
        }
        dueCounts(x, 5, 8, 6, 5, 8, 8, 100, 0);
    }

    private static void tapeRefused() {
        SignalBlind x = new SignalBlind();
        check.promise(35, "NONE: tape");
        for (int no : new int[] {-1, 6, MIN, MAX}) {
            check.due("tape(" + no + ", 0, 1)", x.tape(no, 0, 1), NONE);
            check.due("NONE ahead of BAD", x.tape(no, 5, 61), NONE);
            check.due("NONE ahead of SIZE", x.tape(no, 0, -1), NONE);
            check.due("NONE of nothing", x.tape(no, -1, 0), NONE);
        }
        x.tape(0, 3, 2);
        x.item(0, 1, 77);
        check.promise(35, "BAD: sort, n above 60");
        for (int no : new int[] {-2, 5, MIN, MAX}) {
            check.due("tape(0, " + no + ", 1)", x.tape(0, no, 1), BAD);
            check.due("BAD ahead of SIZE", x.tape(0, no, -1), BAD);
        }
        for (int no : new int[] {61, 62, MAX}) {
            check.due("tape(0, 0, " + no + ")", x.tape(0, 0, no), BAD);
            check.due("tape(0, 4, " + no + ")", x.tape(0, 4, no), BAD);
        }
        check.promise(35, "SIZE");
        for (int no : new int[] {-1, -60, MIN}) {
            check.due("tape(0, 0, " + no + ")", x.tape(0, 0, no), SIZE);
            check.due("tape(0, 4, " + no + ")", x.tape(0, 4, no), SIZE);
        }
        check.due("it is as it was", x.read(0, 1), 77);
        check.due("of the same sort", x.item(0, 1, Long.MAX_VALUE), 1);
        check.due("its length", x.read(0, 2), NO);
    }

    private static void tape() {
        check.promise(35, "A TAPE becomes a row of n (0 .. 60) of a sort, all 0");
        for (int tape = 0; tape < 6; tape += 5) {
            for (int sort = 0; sort < 5; sort++) {
                SignalBlind x = new SignalBlind();
                check.due("none of sort " + sort, x.tape(tape, sort, 0), 1);
                check.due("no place", x.item(tape, 0, 1), PLACE);
                check.due("one", x.tape(tape, sort, 1), 1);
                check.due("it is 0", x.read(tape, 0), 0);
                check.due("no second", x.item(tape, 1, 1), PLACE);
                check.due("sixty", x.tape(tape, sort, 60), 1);
                for (int k = 0; k < 60; k++) {
                    check.due("it is 0", x.read(tape, k), 0);
                    check.due("it becomes 1", x.item(tape, k, 1), 1);
                }
                check.due("no more", x.item(tape, 60, 1), PLACE);
                check.due("sixty anew", x.tape(tape, sort, 60), 1);
                for (int k = 0; k < 60; k++) {
                    check.due("all 0 again", x.read(tape, k), 0);
                }
                check.due("less", x.tape(tape, sort, 59), 1);
                check.due("no more", x.read(tape, 59), NO);
            }
        }
        SignalBlind x = new SignalBlind();
        for (int tape = 0; tape < 6; tape++) {
            x.tape(tape, 3, 1);
            x.item(tape, 0, tape + 1);
        }
        for (int tape = 0; tape < 6; tape++) {
            check.due("each its own", x.read(tape, 0), tape + 1);
        }
    }

    private static void tapeOfNothing() {
        check.promise(35, "or holds nothing (sort -1: n does not matter): 1");
        SignalBlind x = new SignalBlind();
        for (int n : new int[] {0, 1, 60, 61, -1, MIN, MAX}) {
            x.tape(2, 3, 5);
            x.item(2, 0, 9);
            check.due("tape(2, -1, " + n + ")", x.tape(2, -1, n), 1);
            check.due("nothing is there", x.item(2, 0, 1), NOTHING);
            check.due("nothing is read", x.read(2, 0), NO);
        }
        check.due("nothing of nothing", x.tape(2, -1, 0), 1);
        check.due("a row again", x.tape(2, 3, 5), 1);
        check.due("all 0", x.read(2, 0), 0);
        check.terms("TAPES 0 .. 5 hold nothing (at first), or a row of 0 bytes, 1 shorts, 2 ints, 3 longs, 4 booleans (items 0, 1)");
        for (int tape = 0; tape < 6; tape++) {
            check.due("at first", new SignalBlind().item(tape, 0, 0), NOTHING);
            check.due("at first", new SignalBlind().read(tape, 0), NO);
        }
    }

    private static void itemRefused() {
        SignalBlind x = new SignalBlind();
        check.promise(36, "NONE");
        for (int no : new int[] {-1, 6, MIN, MAX}) {
            check.due("item(" + no + ", 0, 1)", x.item(no, 0, 1), NONE);
            check.due("NONE ahead of PLACE", x.item(no, -1, 1), NONE);
        }
        check.promise(36, "NOTHING");
        for (int i : new int[] {0, -1, 1, 60, MIN, MAX}) {
            check.due("item(5, " + i + ", 1)", x.item(5, i, 1), NOTHING);
        }
        check.promise(36, "PLACE");
        x.tape(5, 2, 3);
        for (int i : new int[] {-1, 3, 4, 60, MIN, MAX}) {
            check.due("item(5, " + i + ", 1)", x.item(5, i, 1), PLACE);
        }
        x.tape(4, 2, 0);
        for (int i : new int[] {-1, 0, 1}) {
            check.due("item(4, " + i + ", 1)", x.item(4, i, 1), PLACE);
        }
        for (int i = 0; i < 3; i++) {
            check.due("none became it", x.read(5, i), 0);
        }
    }

    private static void item() {
        check.promise(36, "Item i of a TAPE becomes v");
        SignalBlind x = new SignalBlind();
        x.tape(0, 2, 3);
        check.due("the first", x.item(0, 0, 7), 1);
        check.due("the last", x.item(0, 2, 9), 1);
        check.due("read(0, 0)", x.read(0, 0), 7);
        check.due("read(0, 1)", x.read(0, 1), 0);
        check.due("read(0, 2)", x.read(0, 2), 9);
        check.due("again", x.item(0, 2, -9), 1);
        check.due("read(0, 2)", x.read(0, 2), -9);
    }

    private static void itemBits() {
        check.promise(36, "(its lowest bits, as many as an item has; booleans: whether v is not 0)");
        int[] bits = {8, 16, 32, 64};
        for (int sort = 0; sort < 4; sort++) {
            long greatest = Long.MAX_VALUE >> (64 - bits[sort]);
            long least = -greatest - 1;
            dueItem(sort, greatest, greatest);
            dueItem(sort, least, least);
            dueItem(sort, greatest + 1, least);
            dueItem(sort, least - 1, greatest);
            dueItem(sort, 0, 0);
            dueItem(sort, -1, -1);
            dueItem(sort, Long.MAX_VALUE, sort == 3 ? Long.MAX_VALUE : -1);
            dueItem(sort, Long.MIN_VALUE, sort == 3 ? Long.MIN_VALUE : 0);
            if (sort < 3) {
                dueItem(sort, 1L << bits[sort], 0);
                dueItem(sort, (1L << bits[sort]) + 5, 5);
                dueItem(sort, -(1L << bits[sort]) - 5, -5);
            }
        }
        for (int bit = 0; bit < 64; bit++) {
            dueItem(4, 1L << bit, 1);
        }
        dueItem(4, 0, 0);
        dueItem(4, -1, 1);
        dueItem(4, 2, 1);
    }

    private static void dueItem(int sort, long v, long want) {
        SignalBlind x = new SignalBlind();
        x.tape(0, sort, 1);
        check.due("item(0, 0, " + v + ")", x.item(0, 0, v), 1);
        check.due("sort " + sort + ": " + v, x.read(0, 0), want);
        x.item(0, 0, 0);
        check.due("0 again", x.read(0, 0), 0);
    }

    private static void readRefused() {
        check.promise(37, "NO: no such TAPE, nothing there, no such place");
        SignalBlind x = new SignalBlind();
        for (int no : new int[] {-1, 6, MIN, MAX}) {
            check.due("no such TAPE: " + no, x.read(no, 0), NO);
        }
        for (int i : new int[] {-1, 0, 1, 59, 60, MIN, MAX}) {
            check.due("nothing there: " + i, x.read(0, i), NO);
        }
        x.tape(0, 3, 3);
        for (int i : new int[] {-1, 3, 4, 59, 60, MIN, MAX}) {
            check.due("no such place: " + i, x.read(0, i), NO);
        }
        x.tape(0, 3, 0);
        check.due("no place of none", x.read(0, 0), NO);
        x.tape(0, 3, 60);
        check.due("the sixtieth", x.read(0, 59), 0);
        check.due("no more", x.read(0, 60), NO);
    }

    private static void read() {
        check.promise(37, "Item i of a TAPE.");
        SignalBlind x = counted(3, 4, 0);
        for (int i = 0; i < 4; i++) {
            check.due("read(0, " + i + ")", x.read(0, i), i + 1);
        }
        x.tape(5, 0, 1);
        check.due("the last TAPE", x.read(5, 0), 0);
        x.item(0, 0, Long.MIN_VALUE);
        check.due("NO's own number", x.read(0, 0), Long.MIN_VALUE);
    }

    /** Tape 0 holds 1, 2 and so on, tape 1 zeros, both of a sort. */
    private static SignalBlind counted(int sort, int n, int m) {
        SignalBlind x = new SignalBlind();
        x.tape(0, sort, n);
        x.tape(1, sort, m);
        for (int k = 0; k < n; k++) {
            x.item(0, k, k + 1);
        }
        return x;
    }

    private static void dueRow(SignalBlind x, int tape, int... items) {
        for (int k = 0; k < items.length; k++) {
            check.due("read(" + tape + ", " + k + ")", x.read(tape, k), items[k]);
        }
        check.due("no more", x.read(tape, items.length), NO);
    }

    private static void shiftRefused() {
        SignalBlind x = counted(2, 4, 3);
        check.promise(38, "NONE: tapes");
        for (int no : new int[] {-1, 6, MIN, MAX}) {
            check.due("shift(" + no + ", ..)", x.shift(no, 0, 0, 0, 1), NONE);
            check.due("to " + no, x.shift(0, 0, no, 0, 1), NONE);
            check.due("NONE ahead of NOTHING", x.shift(no, 0, 5, 0, 1), NONE);
            check.due("NONE ahead of NOTHING, to " + no, x.shift(5, 0, no, 0, 1), NONE);
            check.due("NONE ahead of PLACE", x.shift(0, -1, no, -1, -1), NONE);
        }
        check.promise(38, "NOTHING");
        check.due("from nothing", x.shift(5, 0, 0, 0, 1), NOTHING);
        check.due("to nothing", x.shift(0, 0, 5, 0, 1), NOTHING);
        check.due("from nothing to nothing", x.shift(5, 0, 4, 0, 1), NOTHING);
        check.due("nothing to itself", x.shift(5, 0, 5, 0, 0), NOTHING);
        check.due("NOTHING ahead of PLACE", x.shift(5, -1, 0, 0, 1), NOTHING);
        check.due("NOTHING ahead of PLACE, to nothing", x.shift(0, 0, 5, 0, -1), NOTHING);
        check.promise(38, "CAST: of unlike sorts");
        for (int sort = 0; sort < 5; sort++) {
            x.tape(2, sort, 3);
            check.due("ints to sort " + sort, x.shift(1, 0, 2, 0, 1), sort == 2 ? 1 : CAST);
            check.due("sort " + sort + " to ints", x.shift(2, 0, 1, 0, 1), sort == 2 ? 1 : CAST);
            check.due("none of it", x.shift(1, 0, 2, 0, 0), sort == 2 ? 0 : CAST);
            check.due("CAST ahead of PLACE", x.shift(1, -1, 2, 0, 1), sort == 2 ? PLACE : CAST);
            check.due("CAST ahead of PLACE: n", x.shift(1, 0, 2, 0, -1), sort == 2 ? PLACE : CAST);
        }
        dueRow(x, 0, 1, 2, 3, 4);
        dueRow(x, 1, 0, 0, 0);
    }

    private static void shiftPlace() {
        check.promise(38, "PLACE: n, i or j is below 0, or beyond either's end");
        SignalBlind x = counted(2, 4, 3);
        for (int no : new int[] {-1, MIN}) {
            check.due("n is " + no, x.shift(0, 0, 1, 0, no), PLACE);
            check.due("n is " + no + ", in the middle", x.shift(0, 2, 1, 2, no), PLACE);
            check.due("i is " + no, x.shift(0, no, 1, 0, 1), PLACE);
            check.due("j is " + no, x.shift(0, 0, 1, no, 1), PLACE);
            check.due("i is " + no + ", none", x.shift(0, no, 1, 0, 0), PLACE);
            check.due("j is " + no + ", none", x.shift(0, 0, 1, no, 0), PLACE);
        }
        check.due("beyond the one's end by n", x.shift(0, 2, 1, 0, 3), PLACE);
        check.due("beyond the other's end by n", x.shift(0, 0, 1, 1, 3), PLACE);
        check.due("all of the one, beyond the other", x.shift(0, 0, 1, 0, 4), PLACE);
        check.due("more than the one has", x.shift(1, 0, 0, 0, 4), PLACE);
        check.due("beyond the one's end by i", x.shift(0, 4, 1, 0, 1), PLACE);
        check.due("beyond the other's end by j", x.shift(0, 0, 1, 3, 1), PLACE);
        check.due("none, beyond the one's end", x.shift(0, 5, 1, 0, 0), PLACE);
        check.due("none, beyond the other's end", x.shift(0, 0, 1, 4, 0), PLACE);
        check.due("i + n wraps", x.shift(0, MAX, 1, 0, MAX), PLACE);
        check.due("i + n wraps by 1", x.shift(0, MAX, 1, 0, 1), PLACE);
        check.due("j + n wraps by 1", x.shift(0, 0, 1, MAX, 1), PLACE);
        check.due("n alone", x.shift(0, 0, 1, 0, MAX), PLACE);
        check.due("n and 1", x.shift(0, 1, 1, 1, MAX), PLACE);
        check.due("over itself, beyond", x.shift(0, 0, 0, 1, 4), PLACE);
        check.due("over itself, none, beyond", x.shift(0, 5, 0, 5, 0), PLACE);
        dueRow(x, 0, 1, 2, 3, 4);
        dueRow(x, 1, 0, 0, 0);
    }

    private static void shift() {
        check.promise(38, "n items of a TAPE from i on come to another one (or the same) from j on, as they all were before: n.");
        SignalBlind x = counted(2, 4, 3);
        check.due("none, at both ends", x.shift(0, 4, 1, 3, 0), 0);
        check.due("none, at the start", x.shift(0, 0, 1, 0, 0), 0);
        dueRow(x, 1, 0, 0, 0);
        check.due("one, the last to the last", x.shift(0, 3, 1, 2, 1), 1);
        dueRow(x, 1, 0, 0, 4);
        check.due("as many as the other has", x.shift(0, 1, 1, 0, 3), 3);
        dueRow(x, 1, 2, 3, 4);
        check.due("all of the other", x.shift(1, 0, 0, 1, 3), 3);
        dueRow(x, 0, 1, 2, 3, 4);
        for (int sort = 0; sort < 5; sort++) {
            SignalBlind y = counted(sort, 60, 60);
            check.due("sixty of sort " + sort, y.shift(0, 0, 1, 0, 60), 60);
            check.due("the first", y.read(1, 0), 1);
            check.due("the last", y.read(1, 59), sort == 4 ? 1 : 60);
            check.due("sixty-one", y.shift(0, 0, 1, 0, 61), PLACE);
        }
        SignalBlind z = counted(3, 0, 0);
        check.due("none of none", z.shift(0, 0, 1, 0, 0), 0);
        check.due("one of none", z.shift(0, 0, 1, 0, 1), PLACE);
        SignalBlind w = new SignalBlind();
        w.tape(0, 1, 1);
        w.tape(5, 1, 1);
        w.item(0, 0, 3);
        check.due("to the last TAPE", w.shift(0, 0, 5, 0, 1), 1);
        check.due("it is there", w.read(5, 0), 3);
    }

    private static void shiftOverItself() {
        check.promise(38, "(or the same) from j on, as they all were before");
        SignalBlind x = counted(2, 5, 0);
        check.due("on by one", x.shift(0, 0, 0, 1, 4), 4);
        dueRow(x, 0, 1, 1, 2, 3, 4);
        check.due("back by one", x.shift(0, 1, 0, 0, 4), 4);
        dueRow(x, 0, 1, 2, 3, 4, 4);
        check.due("in place", x.shift(0, 0, 0, 0, 5), 5);
        dueRow(x, 0, 1, 2, 3, 4, 4);
        check.due("none, at the end", x.shift(0, 5, 0, 5, 0), 0);
        check.due("on by two", x.shift(0, 0, 0, 2, 3), 3);
        dueRow(x, 0, 1, 2, 1, 2, 3);
    }
}
