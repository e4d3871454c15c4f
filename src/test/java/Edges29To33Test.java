/** Promises 29 (image) to 33 (taken), each sentence that names a limit, a refusal or an empty or full row. */
public final class Edges29To33Test {
    private static final Check check = new Check();
    private static final int NONE = -1, BAD = -2, STATE = -3, NOTHING = -11, CAST = -12;
    private static final int MIN = Integer.MIN_VALUE, MAX = Integer.MAX_VALUE;

    public static void main(String[] args) {
        image();
        imageOfNothing();
        imageOfAll();
        whatIsInIt();
        whatIsNotInIt();
        undo();
        act();
        actOfNobody();
        wrapping();
        trace();
        takenRefused();
        taken();
        check.covered(29, 33);
        check.end();
    }

    private static void image() {
        check.promise(29, "THE IMAGE is taken: how many SENDERS there are.");
        SignalBlind x = new SignalBlind();
        check.due("none", x.image(), 0);
        for (int k = 1; k <= 5; k++) {
            x.sender(0, 0);
            check.due("image()", x.image(), k);
        }
        check.due("image() again", x.image(), 5);
        check.due("they stay", x.count(0), 5);
        x.word(4);
        x.undo();
        check.due("the newest image", x.count(0), 5);
        check.due("without the word", x.count(1), 0);
    }

    private static void imageOfNothing() {
        check.promise(30, "All is as THE IMAGE: how many SENDERS.");
        SignalBlind x = new SignalBlind();
        x.image();
        x.word(1023);
        x.sender(6, 9);
        x.row(0, 2, 9);
        x.say(0, 0);
        x.pass(60);
        x.see(0, 1);
        x.relay(0);
        x.book(0, 0);
        Check.ward(x, "near 9");
        check.due("undo()", x.undo(), 0);
        int[] counts = {0, 0, 1, 0, 0, 0, 0, 0};
        for (int what = 0; what < 8; what++) {
            check.due("count(" + what + ")", x.count(what), counts[what]);
        }
        check.due("HOUR", x.told(0), 0);
        check.due("no WARD holds", x.told(1), 2);
        check.due("no word", x.told(10), NONE);
        check.due("nobody", x.of(0, 0), NONE);
        check.due("looked", x.looked(), -5);
        x.sender(6, 9);
        check.due("a new one has sent nothing", x.of(0, 2), 0);
        check.due("its ROW is 0", x.row(0, 2, 1), 0);
        x.word(3);
        check.due("it sees nothing", x.can(0, 0), 10);
        check.due("the RELAY is empty", x.ends(0, 0), 3);
    }

    private static SignalBlind full() {
        SignalBlind x = new SignalBlind();
        for (int k = 0; k < 8; k++) {
            x.word(k);
        }
        for (int k = 0; k < 5; k++) {
            x.sender(6, k);
            x.see(k, k ^ 1);
            x.say(k, 0);
            for (int part = 0; part < 4; part++) {
                x.row(k, part, k + part);
            }
        }
        for (int k = 0; k < 8; k++) {
            x.relay(5);
            x.book(k, k == 7 ? 9 : k);
        }
        x.pass(60);
        Check.ward(x, "near 0");
        return x;
    }

    private static void imageOfAll() {
        check.promise(30, "All is as THE IMAGE: how many SENDERS.");
        SignalBlind x = full();
        check.due("image()", x.image(), 5);
        for (int k = 0; k < 8; k++) {
            x.alter(k, 1000 + k);
        }
        for (int k = 0; k < 5; k++) {
            x.say(k, 0);
            for (int part = 0; part < 4; part++) {
                x.row(k, part, 9);
            }
        }
        x.see(-1, 0);
        x.relay(-1);
        x.book(-1, 0);
        x.pass(1);
        Check.ward(x, "near 3");
        check.due("undo()", x.undo(), 5);
        int[] counts = {5, 8, 2, 5, 8, 8, 0, 0};
        for (int what = 0; what < 8; what++) {
            check.due("count(" + what + ")", x.count(what), counts[what]);
        }
        check.due("HOUR", x.told(0), 60);
        check.due("NEAR", x.told(1), 0);
        check.due("the eighth row of the BOOK", x.looked(), 7);
        for (int k = 0; k < 8; k++) {
            check.due("word " + k, x.told(10 + k), k);
        }
        for (int k = 0; k < 5; k++) {
            check.due("SENT of " + k, x.of(k, 2), 1);
            check.due("v of " + k, x.of(k, 1), k);
            for (int part = 0; part < 4; part++) {
                check.due("ROW of " + k + " at " + part, x.row(k, part, 0), k + part);
            }
        }
        check.due("what is SEEN: slat 0 by each", x.can(0, 0), 1);
        check.due("a ninth word", x.word(1), SignalBlind.FULL);
        check.due("a sixth sender", x.sender(0, 0), SignalBlind.FULL);
        check.due("a sixth row", x.see(0, 0), SignalBlind.FULL);
        check.due("a ninth of the RELAY", x.relay(5), SignalBlind.FULL);
        check.due("a ninth of the BOOK", x.book(0, 0), SignalBlind.FULL);
    }

    private static SignalBlind one() {
        SignalBlind x = new SignalBlind();
        x.word(5);
        x.sender(6, 3);
        x.image();
        return x;
    }

    private static void whatIsInIt() {
        check.terms("THE IMAGE: WORDS, SENDERS with all that is theirs, HOUR, SEEN, the RELAY, the BOOK, which WARD holds.");
        SignalBlind x = one();
        x.alter(0, 6);
        x.undo();
        check.due("a word", x.told(10), 5);
        x.word(6);
        x.undo();
        check.due("words", x.count(1), 1);
        check.due("the next one's number", x.word(9), 1);
        x.undo();
        x.sender(0, 0);
        check.due("senders", x.undo(), 1);
        check.due("the next one's number", x.sender(1, 2), 1);
        check.due("the next one's KIND", x.of(1, 0), 1);
        x.undo();
        x.say(0, 0);
        x.undo();
        check.due("SENT", x.of(0, 2), 0);
        x.row(0, 3, 7);
        x.undo();
        check.due("ROW", x.row(0, 3, 0), 0);
        x.pass(60);
        x.undo();
        check.due("HOUR", x.told(0), 0);
        x.see(0, 0);
        x.undo();
        check.due("SEEN", x.count(3), 0);
        x.relay(0);
        x.undo();
        check.due("the RELAY", x.count(4), 0);
        x.book(0, 0);
        x.undo();
        check.due("the BOOK", x.count(5), 0);
        Check.ward(x, "near 7");
        x.undo();
        check.due("the WARD", x.told(1), 2);
        Check.ward(x, "near 8");
        x.image();
        Check.ward(x, "near 9");
        x.undo();
        check.due("the WARD of the image", x.told(1), 8);
        x.undo();
        check.due("again", x.told(1), 8);
    }

    private static void whatIsNotInIt() {
        check.terms("THE IMAGE: WORDS, SENDERS with all that is theirs, HOUR, SEEN, the RELAY, the BOOK, which WARD holds.");
        SignalBlind x = one();
        x.feed('n');
        x.tape(0, 1, 2);
        x.item(0, 1, 5);
        x.act(0, 0, 1);
        Check.ward(x, "ear 1");
        x.feed('n');
        x.undo();
        check.due("THE TEXT", x.count(6), 1);
        check.due("how many WARDS", x.count(2), 1);
        check.due("a TAPE", x.read(0, 1), 5);
        check.due("it is judged by the words that are", x.judge(0, 1), -5);
        check.due("THE TRACE", x.count(7), 2);
        check.due("its first", x.trace(0), 71);
        for (int k = 1; k < 6; k++) {
            check.due("ward " + k, Check.ward(x, k == 1 ? "ear 1" : "near 1"), k);
        }
        x.undo();
        check.due("there are 6 still", x.ward(), SignalBlind.FULL);
        check.due("none of them holds", x.told(1), 2);
    }

    private static void undo() {
        check.promise(30, "STATE: there is none");
        SignalBlind x = new SignalBlind();
        check.due("a new object", x.undo(), STATE);
        x.word(3);
        x.sender(0, 0);
        check.due("still none", x.undo(), STATE);
        check.due("words are as they were", x.count(1), 1);
        check.due("senders are as they were", x.count(0), 1);
        x.image();
        check.due("there is one", x.undo(), 1);
        check.due("it stays", x.undo(), 1);
        check.due("another object has none", new SignalBlind().undo(), STATE);
    }

    private static void dueAct(SignalBlind x, int sender, int act, int number, int answer, int... bodies) {
        String call = "act(" + sender + ", " + act + ", " + number + ")";
        check.due(call, x.act(sender, act, number), answer);
        check.due(call + ": bodies", x.count(7), bodies.length);
        for (int k = 0; k < bodies.length; k++) {
            check.due(call + ": trace(" + k + ")", x.trace(k), bodies[k]);
        }
        check.due(call + ": behind them", x.trace(bodies.length), NONE);
    }

    // i is 4, v is 9, x is 100: each body by hand, from the left on.
    private static void act() {
        check.promise(31, "An ACT (0 tilts, 1 sends, 2 tells) of a SENDER with x.");
        // SISTER sends: (-(101 + 4) - 9) ^ 6. TOLD sends: (104 ^ 9) - 9 + 6; its tells: 2 * 94 + ((5 ^ 9) - 9 + 6).
        int[][] answers = {{104, 95, 190}, {104, 89, 178}, {304, 295, 590}, {104, 95, 186}, {-104, -120, -240},
            {304, 295, 566}, {97, 94, 197}};
        int[][][] bodies = {
            {{10}, {11, 10}, {12, 11, 10}},
            {{10}, {20, 11, 10}, {12, 20, 11, 10}},
            {{30, 10}, {11, 30, 10}, {12, 11, 30, 10}},
            {{10}, {11, 10}, {40, 12, 11, 10, 11, 10}},
            {{50, 10}, {51, 20, 11, 50, 10}, {12, 51, 20, 11, 50, 10}},
            {{30, 10}, {11, 30, 10}, {60, 12, 11, 30, 10}},
            {{71, 10}, {70, 11, 71, 10, 10}, {40, 12, 70, 11, 71, 10, 10, 70, 11, 71, 10, 10}}};
        for (int kind = 0; kind < 7; kind++) {
            SignalBlind x = new SignalBlind();
            for (int k = 0; k < 4; k++) {
                x.sender(0, 0);
            }
            x.sender(kind, 9);
            for (int act = 0; act < 3; act++) {
                dueAct(x, 4, act, 100, answers[kind][act], bodies[kind][act]);
            }
        }
        SignalBlind y = new SignalBlind();
        y.sender(5, 0);
        dueAct(y, 0, 0, 0, 0, 30, 10);
        dueAct(y, 0, 2, -1, -6, 60, 12, 11, 30, 10);
    }

    private static void actOfNobody() {
        check.promise(31, "0, and no TRACE then: no such SENDER, act.");
        dueAct(new SignalBlind(), 0, 0, 5, 0);
        SignalBlind x = new SignalBlind();
        x.sender(0, 1);
        x.sender(0, 1);
        for (int no : new int[] {-1, 2, 5, MIN, MAX}) {
            dueAct(x, 0, 0, 7, 7, 10);
            dueAct(x, no, 0, 7, 0);
        }
        for (int no : new int[] {-1, 3, MIN, MAX}) {
            dueAct(x, 1, 1, 7, 7, 11, 10);
            dueAct(x, 1, no, 7, 0);
            dueAct(x, 0, 0, 7, 7, 10);
            dueAct(x, 0, no, 7, 0);
        }
        check.due("nothing is sent", x.of(1, 2), 0);
    }

    private static void wrapping() {
        check.terms("ACTS of a SENDER with x (wrapping): 0 tilts, 1 sends, 2 tells; i its number.");
        SignalBlind x = new SignalBlind();
        x.sender(0, 9);
        x.sender(2, 0);
        x.sender(4, 0);
        x.sender(5, 3);
        x.sender(0, 0);
        check.due("x + i, beyond the greatest", x.act(4, 0, MAX), MIN + 3);
        check.due("x + i, just to it", x.act(4, 0, MAX - 4), MAX);
        check.due("x - v, below the least", x.act(0, 1, MIN), MAX - 8);
        check.due("* 2, beyond", x.act(4, 2, 1 << 30), MIN + 8);
        check.due("x * 3, beyond", x.act(1, 0, MAX), MAX - 2 + 1);
        check.due("- of the least", x.act(2, 0, MIN - 2), MIN);
        check.due("x + 1, beyond", x.act(2, 1, MAX), (-(MIN + 2)) ^ 6);
        check.due("x - i, below the least", x.act(3, 2, MIN), ((MIN - 3) * 3 + 3 - 3) * 2);
    }

    private static void trace() {
        check.promise(32, "THE TRACE's i-th body. NONE.");
        SignalBlind x = new SignalBlind();
        for (int i : new int[] {-1, 0, 1, 19, 20, MIN, MAX}) {
            check.due("no act: trace(" + i + ")", x.trace(i), NONE);
        }
        check.terms("the numbers of the bodies that ran in the latest act(), as they began; the first 20 are kept");
        x.sender(6, 0);
        check.due("no act yet", x.trace(0), NONE);
        x.act(0, 2, 0);
        int[] most = {40, 12, 70, 11, 71, 10, 10, 70, 11, 71, 10, 10};
        for (int i = 0; i < 12; i++) {
            check.due("trace(" + i + ")", x.trace(i), most[i]);
        }
        for (int i : new int[] {-1, 12, 19, 20, 21, MIN, MAX}) {
            check.due("twelve: trace(" + i + ")", x.trace(i), NONE);
        }
        x.act(0, 0, 0);
        check.due("the latest alone", x.trace(0), 71);
        check.due("its second", x.trace(1), 10);
        check.due("none of the one ahead", x.trace(2), NONE);
        x.shows(0, 0);
        x.word(0);
        x.say(0, 0);
        check.due("saying is no act", x.trace(0), 71);
    }

    private static void takenRefused() {
        SignalBlind x = new SignalBlind();
        check.promise(33, "BAD: k");
        for (int k : new int[] {-1, 7, MIN, MAX}) {
            check.due("nobody: taken(0, " + k + ")", x.taken(0, k), BAD);
        }
        check.promise(33, "NOTHING: no such SENDER");
        for (int k = 0; k < 7; k++) {
            check.due("nobody: taken(0, " + k + ")", x.taken(0, k), NOTHING);
        }
        x.sender(0, 0);
        x.sender(6, 0);
        check.promise(33, "BAD: k");
        for (int k : new int[] {-1, 7, MIN, MAX}) {
            check.due("taken(0, " + k + ")", x.taken(0, k), BAD);
            check.due("BAD ahead of NOTHING", x.taken(2, k), BAD);
        }
        check.promise(33, "NOTHING: no such SENDER");
        for (int no : new int[] {-1, 2, 5, MIN, MAX}) {
            check.due("taken(" + no + ", 0)", x.taken(no, 0), NOTHING);
            check.due("taken(" + no + ", 6)", x.taken(no, 6), NOTHING);
        }
    }

    private static void taken() {
        check.promise(33, "A SENDER taken for one of KIND k (0 .. 6), or one under that: its KIND.");
        boolean[][] is = new boolean[7][7];
        int[] above = {0, 0, 0, 0, 1, 2, 3};
        for (int kind = 0; kind < 7; kind++) {
            is[kind][kind] = true;
            is[kind][above[kind]] = true;
            is[kind][0] = true;
        }
        for (int kind = 0; kind < 7; kind++) {
            SignalBlind x = new SignalBlind();
            x.sender((kind + 1) % 7, 0);
            x.sender(kind, 0);
            for (int k = 0; k < 7; k++) {
                check.due("KIND " + kind + " for one of " + k, x.taken(1, k), is[kind][k] ? kind : CAST);
            }
        }
        check.promise(33, "CAST");
        SignalBlind x = new SignalBlind();
        x.sender(1, 0);
        check.due("one above", x.taken(0, 4), CAST);
        check.due("one beside", x.taken(0, 2), CAST);
    }
}
