/** Promises 1 (a new object) to 7 (meaning), each sentence that names a limit, a refusal or an empty or full row. */
public final class Edges1To7Test {
    private static final Check check = new Check();
    private static final int NONE = -1, BAD = -2, FULL = -4;
    private static final int MIN = Integer.MIN_VALUE, MAX = Integer.MAX_VALUE;
    private static final int[] NO_SIGNS = {-1, 1024, 1025, -1024, MIN, MAX};

    public static void main(String[] args) {
        newObject();
        word();
        alter();
        sender();
        of();
        shows();
        meaning();
        check.covered(1, 7);
        check.end();
    }

    private static SignalBlind withWords(int... signs) {
        SignalBlind x = new SignalBlind();
        for (int sign : signs) {
            x.word(sign);
        }
        return x;
    }

    private static void newObject() {
        check.promise(1, "No WORDS, no SENDERS, no WARD.");
        SignalBlind x = new SignalBlind();
        for (int what = 0; what < 8; what++) {
            check.due("count(" + what + ")", x.count(what), 0);
        }
        check.due("no words: told(10)", x.told(10), NONE);
        check.due("no words: meaning(0)", x.meaning(0), -5);
        check.due("no words: mean(0)", x.mean(0), SignalBlind.NO);
        check.due("no words: alter(0, 0)", x.alter(0, 0), NONE);
        check.due("no senders: of(0, 0)", x.of(0, 0), NONE);
        check.due("no senders: taken(0, 0)", x.taken(0, 0), -11);
        check.due("no senders: act(0, 0, 7)", x.act(0, 0, 7), 0);
        check.due("no ward: NEAR", x.told(1), 2);
        check.due("no image", x.undo(), SignalBlind.STATE);
        check.due("the first word", x.word(9), 0);
        check.due("the first sender", x.sender(0, 9), 0);
        check.due("the first ward", Check.ward(x, "near 9"), 0);
        SignalBlind y = new SignalBlind();
        check.due("another object: words", y.count(1), 0);
        check.due("another object: senders", y.count(0), 0);
        check.due("another object: NEAR", y.told(1), 2);
    }

    private static void word() {
        SignalBlind x = new SignalBlind();
        check.promise(2, "BAD: sign");
        for (int sign : NO_SIGNS) {
            check.due("word(" + sign + ")", x.word(sign), BAD);
        }
        check.due("none came", x.count(1), 0);
        check.promise(2, "A WORD: its number.");
        check.due("the least sign", x.word(0), 0);
        check.due("the greatest sign", x.word(1023), 1);
        check.due("told(10)", x.told(10), 0);
        check.due("told(11)", x.told(11), 1023);
        check.promise(2, "FULL: 8");
        for (int k = 2; k < 8; k++) {
            check.due("word " + k, x.word(k), k);
        }
        check.due("how many", x.count(1), 8);
        check.due("the ninth", x.word(8), FULL);
        check.due("the ninth, as one that is there", x.word(0), FULL);
        check.due("how many still", x.count(1), 8);
        check.due("the eighth is as it was", x.told(17), 7);
        check.due("the first is as it was", x.told(10), 0);
        for (int sign : NO_SIGNS) {
            check.due("BAD ahead of FULL: word(" + sign + ")", x.word(sign), BAD);
        }
    }

    private static void alter() {
        check.promise(3, "NONE");
        check.due("no words", new SignalBlind().alter(0, 0), NONE);
        SignalBlind x = withWords(5, 6, 7);
        for (int word : new int[] {-1, 3, 8, MIN, MAX}) {
            check.due("alter(" + word + ", 9)", x.alter(word, 9), NONE);
            check.due("NONE ahead of BAD", x.alter(word, 1024), NONE);
        }
        check.promise(3, "BAD");
        for (int sign : NO_SIGNS) {
            check.due("alter(0, " + sign + ")", x.alter(0, sign), BAD);
            check.due("alter(2, " + sign + ")", x.alter(2, sign), BAD);
        }
        check.due("they are as they were", x.told(10), 5);
        check.due("the last too", x.told(12), 7);
        check.promise(3, "A WORD becomes a SIGN: what it was.");
        check.due("the first", x.alter(0, 0), 5);
        check.due("the first again", x.alter(0, 1023), 0);
        check.due("and again, to what it is", x.alter(0, 1023), 1023);
        check.due("the last", x.alter(2, 1), 7);
        check.due("told(10)", x.told(10), 1023);
        check.due("told(11)", x.told(11), 6);
        check.due("told(12)", x.told(12), 1);
        check.due("none came", x.count(1), 3);
        SignalBlind y = withWords(1, 2, 3, 4, 5, 6, 7, 8);
        check.due("the eighth", y.alter(7, 0), 8);
        check.due("a ninth", y.alter(8, 0), NONE);
        check.due("told(17)", y.told(17), 0);
    }

    private static void sender() {
        SignalBlind x = new SignalBlind();
        check.promise(4, "NONE: kind");
        for (int kind : new int[] {-1, 7, MIN, MAX}) {
            check.due("sender(" + kind + ", 0)", x.sender(kind, 0), NONE);
            check.due("NONE ahead of BAD", x.sender(kind, 10), NONE);
        }
        check.promise(4, "BAD: v");
        for (int v : new int[] {-1, 10, MIN, MAX}) {
            check.due("sender(0, " + v + ")", x.sender(0, v), BAD);
            check.due("sender(6, " + v + ")", x.sender(6, v), BAD);
        }
        check.due("none came", x.count(0), 0);
        check.promise(4, "A SENDER: its number.");
        check.due("the least KIND and v", x.sender(0, 0), 0);
        check.due("the greatest KIND and v", x.sender(6, 9), 1);
        check.due("its KIND", x.of(1, 0), 6);
        check.due("its v", x.of(1, 1), 9);
        check.promise(4, "FULL: 5");
        for (int k = 2; k < 5; k++) {
            check.due("sender " + k, x.sender(k, k), k);
        }
        check.due("the sixth", x.sender(0, 0), FULL);
        check.due("how many", x.count(0), 5);
        check.due("the fifth is as it was", x.of(4, 0), 4);
        check.due("NONE ahead of FULL", x.sender(7, 0), NONE);
        check.due("NONE ahead of both", x.sender(-1, -1), NONE);
        check.due("BAD ahead of FULL", x.sender(0, 10), BAD);
        check.due("BAD ahead of FULL, below 0", x.sender(0, -1), BAD);
        for (int kind = 0; kind < 7; kind++) {
            SignalBlind y = new SignalBlind();
            check.due("KIND " + kind, y.sender(kind, kind), 0);
            check.due("it is that", y.of(0, 0), kind);
            check.due("its v", y.of(0, 1), kind);
        }
    }

    private static void of() {
        SignalBlind x = withWords(0, 1023);
        check.promise(5, "NONE");
        check.due("no senders", x.of(0, 0), NONE);
        x.sender(3, 9);
        x.sender(0, 0);
        for (int s : new int[] {-1, 2, 5, MIN, MAX}) {
            for (int what = -1; what < 6; what++) {
                check.due("of(" + s + ", " + what + ")", x.of(s, what), NONE);
            }
        }
        for (int what : new int[] {-1, 5, MIN, MAX}) {
            check.due("of(0, " + what + ")", x.of(0, what), NONE);
            check.due("of(1, " + what + ")", x.of(1, what), NONE);
        }
        check.promise(5, "Of a SENDER what 0 KIND, 1 v, 2 SENT, 3 THROUGH (bits), 4 CLEAR.");
        int[] first = {3, 9, 0, 3, 1024};
        int[] second = {0, 0, 0, 3, 1024};
        for (int what = 0; what < 5; what++) {
            check.due("of(0, " + what + ")", x.of(0, what), first[what]);
            check.due("of(1, " + what + ")", x.of(1, what), second[what]);
        }
        check.terms("THROUGH of a SENDER: which WORDS COME through it (bits).");
        SignalBlind y = new SignalBlind();
        y.sender(0, 0);
        check.due("no words", y.of(0, 3), 0);
        for (int k = 0; k < 8; k++) {
            y.word(127 * k);
            check.due("words to " + k, y.of(0, 3), (2 << k) - 1);
        }
        check.terms("CLEAR of a SENDER: how many unlike SIGNS it SHOWS, for all of 0 .. 1023.");
        clear();
    }

    private static void clear() {
        int[] all = {1024, 1024, 32, 1024, 1024, 32, 1024};
        for (int kind = 0; kind < 7; kind++) {
            SignalBlind x = new SignalBlind();
            x.sender(kind, 0);
            check.due("KIND " + kind, x.of(0, 4), all[kind]);
        }
        SignalBlind x = new SignalBlind();
        x.sender(2, 0);
        Check.ward(x, "shut 0 s=0;shut 2 s=0;shut 4 s=0;shut 6 s=0;shut 8 s=0");
        check.due("one alone", x.of(0, 4), 1);
        Check.ward(x, "shut 0 s=0;shut 2 s=0;shut 4 s=0;shut 6 s=0;open 8 s=0");
        check.due("one alone, another", x.of(0, 4), 1);
        SignalBlind y = new SignalBlind();
        y.sender(0, 0);
        Check.ward(y, "open 0 o=0");
        check.due("all but 0", y.of(0, 4), 1023);
        Check.ward(y, "shut 9 o=10");
        check.due("all but 1023", y.of(0, 4), 1023);
        Check.ward(y, "shut 9 o>8");
        check.due("all but 1023 and all but nine that are shut once", y.of(0, 4), 1014);
    }

    private static void shows() {
        check.promise(6, "NONE");
        check.due("no senders", new SignalBlind().shows(0, 0), NONE);
        SignalBlind x = new SignalBlind();
        x.sender(0, 0);
        x.sender(3, 0);
        for (int s : new int[] {-1, 2, 5, MIN, MAX}) {
            check.due("shows(" + s + ", 0)", x.shows(s, 0), NONE);
            check.due("NONE ahead of BAD", x.shows(s, 1024), NONE);
        }
        check.promise(6, "BAD");
        for (int sign : NO_SIGNS) {
            check.due("shows(0, " + sign + ")", x.shows(0, sign), BAD);
            check.due("shows(1, " + sign + ")", x.shows(1, sign), BAD);
        }
        check.promise(6, "What a SENDER SHOWS for a SIGN.");
        check.due("the least sign", x.shows(0, 0), 0);
        check.due("the greatest sign", x.shows(0, 1023), 1023);
        check.due("the last sender, the least", x.shows(1, 0), 1);
        check.due("the last sender, the greatest", x.shows(1, 1023), 1022);
        for (int k = 2; k < 5; k++) {
            x.sender(3, k);
        }
        check.due("the fifth", x.shows(4, 0), 16);
        check.due("a sixth", x.shows(5, 0), NONE);
    }

    private static void meaning() {
        SignalBlind x = new SignalBlind();
        check.promise(7, "BAD");
        for (int sign : NO_SIGNS) {
            check.due("meaning(" + sign + ")", x.meaning(sign), BAD);
        }
        check.promise(7, "READ; -5.");
        check.due("no words, 0", x.meaning(0), -5);
        check.due("no words, 1023", x.meaning(1023), -5);
        x.word(1023);
        check.due("just by NEAR", x.meaning(1020), 0);
        check.due("just beyond NEAR", x.meaning(1016), -5);
        check.due("the greatest sign", x.meaning(1023), 0);
        check.due("the least sign", x.meaning(0), -5);
        for (int k = 0; k < 7; k++) {
            x.word(0);
        }
        check.due("of several the first", x.meaning(0), 1);
        x.alter(7, 112);
        check.due("the eighth", x.meaning(112), 7);
        check.due("the eighth, apart by 1", x.meaning(113), 7);
        check.due("the eighth, apart by 2", x.meaning(96 + 512), 7);
        check.due("apart by 1 from the eighth, by 2 from the second", x.meaning(48), 7);
        check.due("apart by 2 from the eighth, by 1 from the second", x.meaning(16), 1);
    }
}
