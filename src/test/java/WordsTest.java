/** Promises 1 (a new object), 2 (word), 3 (alter), 7 (meaning), 12 (told), 13 (pass), 23 (mean), 34 (count). */
public final class WordsTest {
    private static final Check check = new Check();

    public static void main(String[] args) {
        newObject();
        words();
        meaning();
        apart();
        newest();
        hours();
        mean();
        check.end();
    }

    private static void newObject() {
        SignalBlind x = new SignalBlind();
        for (int what = 0; what <= 7; what++) {
            check.due("new: count(" + what + ")", x.count(what), 0);
        }
        check.due("count(-1)", x.count(-1), SignalBlind.BAD);
        check.due("count(8)", x.count(8), SignalBlind.BAD);
        check.due("new: of(0, 0)", x.of(0, 0), SignalBlind.NONE);
        check.due("new: told(0)", x.told(0), 0);
        check.due("new: told(1)", x.told(1), 2);
        check.due("new: told(10)", x.told(10), SignalBlind.NONE);
        check.due("new: undo()", x.undo(), SignalBlind.STATE);
        check.due("new: trace(0)", x.trace(0), SignalBlind.NONE);
        check.due("new: looked()", x.looked(), -5);
        for (int tape = 0; tape < 6; tape++) {
            check.due("new: read", x.read(tape, 0), SignalBlind.NO);
            check.due("new: item", x.item(tape, 0, 1), -11);
        }
    }

    private static void words() {
        SignalBlind x = new SignalBlind();
        check.due("word(-1)", x.word(-1), SignalBlind.BAD);
        check.due("word(1024)", x.word(1024), SignalBlind.BAD);
        check.due("word(MIN)", x.word(Integer.MIN_VALUE), SignalBlind.BAD);
        check.due("no word came", x.count(1), 0);
        int[] signs = {0, 1023, 7, 7, 512, 1, 99, 100};
        for (int k = 0; k < signs.length; k++) {
            check.due("word(" + signs[k] + ")", x.word(signs[k]), k);
            check.due("count(1)", x.count(1), k + 1);
        }
        check.due("the ninth word", x.word(5), SignalBlind.FULL);
        check.due("BAD is named first", x.word(1024), SignalBlind.BAD);
        for (int k = 0; k < signs.length; k++) {
            check.due("told(" + (10 + k) + ")", x.told(10 + k), signs[k]);
        }
        check.due("told(18)", x.told(18), SignalBlind.NONE);
        check.due("told(9)", x.told(9), SignalBlind.NONE);
        check.due("told(6)", x.told(6), SignalBlind.NONE);
        check.due("told(-1)", x.told(-1), SignalBlind.NONE);
        check.due("told(MAX)", x.told(Integer.MAX_VALUE), SignalBlind.NONE);
        check.due("told(MIN)", x.told(Integer.MIN_VALUE), SignalBlind.NONE);
        check.due("alter(-1, 0)", x.alter(-1, 0), SignalBlind.NONE);
        check.due("alter(8, -1)", x.alter(8, -1), SignalBlind.NONE);
        check.due("alter(1, 1024)", x.alter(1, 1024), SignalBlind.BAD);
        check.due("alter(1, -1)", x.alter(1, -1), SignalBlind.BAD);
        check.due("alter(1, 0)", x.alter(1, 0), 1023);
        check.due("alter(1, 1023)", x.alter(1, 1023), 0);
        check.due("told(11)", x.told(11), 1023);
        check.due("the others stay", x.told(12), 7);
    }

    private static void meaning() {
        SignalBlind x = new SignalBlind();
        check.due("no words", x.meaning(0), -5);
        x.word(3);
        x.word(15);
        x.word(15);
        check.due("itself", x.meaning(3), 0);
        check.due("of several the first", x.meaning(15), 1);
        check.due("between two: the first", x.meaning(7), 0);
        check.due("apart by NEAR", x.meaning(51), 0);
        check.due("apart by more", x.meaning(115), -5);
        check.due("nearer to a later word", x.meaning(15 + 512), 1);
        check.due("meaning(-1)", x.meaning(-1), SignalBlind.BAD);
        check.due("meaning(1024)", x.meaning(1024), SignalBlind.BAD);
        check.due("near 0", Check.ward(x, "near 0"), 0);
        check.due("just the word", x.meaning(3), 0);
        check.due("not quite", x.meaning(7), -5);
        check.due("near 99", Check.ward(x, "near 99"), 1);
        check.due("however far", x.meaning(1023), 1);
    }

    private static void apart() {
        SignalBlind x = new SignalBlind();
        check.due("none", x.told(2), -5);
        check.due("none: which", x.told(3), -5);
        x.word(3);
        check.due("one", x.told(2), -5);
        check.due("one: which", x.told(3), -5);
        x.word(1023 - 3);
        check.due("two", x.told(2), 10);
        check.due("two: which", x.told(3), 1);
        x.word(15);
        check.due("three", x.told(2), 2);
        check.due("three: which", x.told(3), 2);
        x.word(15 + 48);
        check.due("as near again: the first", x.told(3), 2);
        x.word(15);
        check.due("alike", x.told(2), 0);
        check.due("alike: which", x.told(3), 24);
    }

    private static void newest() {
        SignalBlind x = new SignalBlind();
        check.due("no words: the sign", x.told(4), 0);
        check.due("no words: by how much", x.told(5), -5);
        x.word(1023);
        check.due("the other end", x.told(4), 0);
        check.due("by all slats", x.told(5), 10);
        x.alter(0, 3);
        x.word(15);
        check.due("of several the first", x.told(4), 1008 + 4);
        check.due("by how much", x.told(5), 9);
        check.due("nothing came", x.count(1), 2);
    }

    private static void hours() {
        SignalBlind x = new SignalBlind();
        check.due("pass(-1)", x.pass(-1), SignalBlind.BAD);
        check.due("pass(61)", x.pass(61), SignalBlind.BAD);
        check.due("pass(0)", x.pass(0), 0);
        check.due("pass(1)", x.pass(1), 1);
        check.due("told(0)", x.told(0), 1);
        for (int k = 0; k < 166; k++) {
            check.due("pass(60)", x.pass(60), 61 + 60 * k);
        }
        check.due("above the last hour", x.pass(39), SignalBlind.STATE);
        check.due("BAD is named first", x.pass(61), SignalBlind.BAD);
        check.due("no hour went", x.told(0), 9961);
        check.due("to the last hour", x.pass(38), 9999);
        check.due("no more", x.pass(1), SignalBlind.STATE);
        check.due("none goes", x.pass(0), 9999);
    }

    private static void mean() {
        SignalBlind x = new SignalBlind();
        check.due("no words: above", x.mean(0), SignalBlind.NO);
        check.due("no words: below", x.mean(1), SignalBlind.NO);
        x.word(0);
        check.due("none open: above", x.mean(0), 0);
        check.due("none open: below", x.mean(1), 1);
        x.word(0);
        check.due("0 of 2: below", x.mean(1), 1);
        x.alter(0, 7);
        x.alter(1, 1023);
        x.word(1);
        x.word(3);
        check.due("16 by 4: above", x.mean(0), 4);
        check.due("16 by 4: below", x.mean(1), 1);
        x.alter(3, 0);
        check.due("14 by 4: above", x.mean(0), 7);
        check.due("14 by 4: below", x.mean(1), 2);
        check.due("mean(-1)", x.mean(-1), SignalBlind.NO);
        check.due("mean(2)", x.mean(2), SignalBlind.NO);
    }
}
