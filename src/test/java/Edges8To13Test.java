/** Promises 8 (say) to 13 (pass), each sentence that names a limit, a refusal or an empty or full row. */
public final class Edges8To13Test {
    private static final Check check = new Check();
    private static final int NONE = -1, BAD = -2, STATE = -3, FULL = -4;
    private static final int MIN = Integer.MIN_VALUE, MAX = Integer.MAX_VALUE;

    public static void main(String[] args) {
        say();
        sayTheLast();
        row();
        feed();
        wardNumbers();
        wardFaults();
        wardFull();
        told();
        toldApart();
        toldNew();
        pass();
        passTheLast();
        check.covered(8, 13);
        check.end();
    }

    private static void say() {
        check.promise(8, "NONE");
        SignalBlind x = new SignalBlind();
        check.due("nobody, no words", x.say(0, 0), NONE);
        x.word(0);
        check.due("nobody", x.say(0, 0), NONE);
        x.sender(0, 0);
        x.sender(3, 9);
        x.word(960);
        for (int no : new int[] {-1, 2, 8, MIN, MAX}) {
            check.due("say(" + no + ", 0)", x.say(no, 0), NONE);
            check.due("say(0, " + no + ")", x.say(0, no), NONE);
            check.due("say(1, " + no + ")", x.say(1, no), NONE);
        }
        check.due("SENT is as it was", x.of(0, 2), 0);
        check.due("SENT of the other", x.of(1, 2), 0);
        SignalBlind y = new SignalBlind();
        y.sender(0, 0);
        check.due("no words", y.say(0, 0), NONE);
        check.promise(8, "A WORD is SAID by a SENDER: what it is READ as (-5).");
        check.due("the first by the first", x.say(0, 0), 0);
        check.due("the last by the last", x.say(1, 1), 1);
        check.due("SENT", x.of(0, 2), 1);
        check.due("SENT of the other", x.of(1, 2), 1);
        Check.ward(x, "near 0");
        check.due("none", x.say(1, 1), -5);
        check.due("SENT all the same", x.of(1, 2), 2);
        x.alter(0, 960 - 512);
        check.due("read as another", x.say(1, 1), 0);
        check.due("SENT", x.of(1, 2), 3);
    }

    // SENT can't come to 9999 by the 512 calls that an object is promised for: this one goes beyond them.
    private static void sayTheLast() {
        check.promise(8, "STATE: SENT is 9999");
        SignalBlind x = new SignalBlind();
        x.word(7);
        x.sender(0, 0);
        x.sender(0, 0);
        for (int k = 0; k < 9998; k++) {
            x.say(0, 0);
        }
        check.due("SENT", x.of(0, 2), 9998);
        check.due("the last", x.say(0, 0), 0);
        check.due("SENT", x.of(0, 2), 9999);
        check.due("one more", x.say(0, 0), STATE);
        check.due("SENT is as it was", x.of(0, 2), 9999);
        check.due("NONE ahead of STATE", x.say(0, 1), NONE);
        check.due("the other may", x.say(1, 0), 0);
        Check.ward(x, "turn 1 f=9");
        check.due("SENT modulo 10", x.shows(0, 7), 14);
    }

    private static void row() {
        SignalBlind x = new SignalBlind();
        check.promise(9, "NONE: sender, part");
        check.due("nobody", x.row(0, 0, 0), NONE);
        for (int kind = 0; kind < 4; kind++) {
            x.sender(kind, 0);
        }
        x.sender(6, 0);
        for (int no : new int[] {-1, 5, MIN, MAX}) {
            check.due("row(" + no + ", 0, 1)", x.row(no, 0, 1), NONE);
            check.due("NONE ahead of BAD", x.row(no, 0, 10), NONE);
        }
        for (int no : new int[] {-1, 4, MIN, MAX}) {
            check.due("row(4, " + no + ", 1)", x.row(4, no, 1), NONE);
            check.due("NONE ahead of BAD", x.row(4, no, -1), NONE);
            check.due("NONE ahead of STATE", x.row(0, no, 1), NONE);
        }
        check.promise(9, "BAD");
        for (int no : new int[] {-1, 10, MIN, MAX}) {
            check.due("row(4, 0, " + no + ")", x.row(4, 0, no), BAD);
            check.due("row(4, 3, " + no + ")", x.row(4, 3, no), BAD);
            check.due("BAD ahead of STATE", x.row(0, 0, no), BAD);
        }
        check.promise(9, "STATE: another KIND");
        for (int s = 0; s < 4; s++) {
            check.due("KIND " + s, x.row(s, 0, 0), STATE);
            check.due("KIND " + s + ", the last part", x.row(s, 3, 9), STATE);
        }
        SignalBlind y = new SignalBlind();
        y.sender(4, 0);
        y.sender(5, 0);
        check.due("KIND 4", y.row(0, 0, 1), STATE);
        check.due("KIND 5", y.row(1, 0, 1), STATE);
        check.promise(9, "The ROW of a TOLD one becomes n (0 .. 9) for HOURS modulo 4 being part: what it was.");
        for (int part = 0; part < 4; part++) {
            check.due("0 at first", x.row(4, part, 9 - part), 0);
        }
        for (int part = 0; part < 4; part++) {
            check.due("what it was", x.row(4, part, part), 9 - part);
        }
        check.due("the greatest", x.row(4, 3, 9), 3);
        check.due("the least", x.row(4, 3, 0), 9);
        check.due("as it is", x.row(4, 3, 0), 0);
        for (int hour = 0; hour < 8; hour++) {
            check.due("at HOUR " + hour, x.shows(4, 1), hour % 4 == 3 ? 0 : hour % 4);
            x.pass(1);
        }
    }

    private static void feed() {
        SignalBlind x = new SignalBlind();
        check.promise(10, "BAD");
        for (int no : new int[] {-1, 128, 255, 256 + 'n', MIN, MAX}) {
            check.due("feed(" + no + ")", x.feed(no), BAD);
        }
        check.due("none came", x.count(6), 0);
        check.promise(10, "A sign of writing (0 .. 127) comes behind THE TEXT's: how many it has.");
        check.due("the least", x.feed(0), 1);
        check.due("the greatest", x.feed(127), 2);
        check.due("how many", x.count(6), 2);
        check.due("0 is a byte as others are", x.ward(), -10);
        for (int k = 0; k < 6; k++) {
            check.due("behind the others", x.feed("near 5".charAt(k)), k + 1);
        }
        check.due("as they came", x.ward(), 0);
        check.due("NEAR", x.told(1), 5);
        check.promise(10, "FULL");
        for (int k = 1; k <= 99; k++) {
            check.due("feed", x.feed('n'), k);
        }
        check.due("BAD at 99", x.feed(128), BAD);
        check.due("the hundredth", x.feed('n'), 100);
        check.due("one more", x.feed('n'), FULL);
        check.due("0", x.feed(0), FULL);
        check.due("127", x.feed(127), FULL);
        check.due("BAD ahead of FULL", x.feed(128), BAD);
        check.due("BAD ahead of FULL, below 0", x.feed(-1), BAD);
        check.due("how many", x.count(6), 100);
        check.due("it is a text that ends behind its second n", x.ward(), -11);
        check.due("empty then", x.count(6), 0);
        check.due("and takes more", x.feed('n'), 1);
    }

    private static void wardNumbers() {
        check.promise(11, "THE TEXT, which is empty then, is a WARD, and holds: its number.");
        SignalBlind x = new SignalBlind();
        x.sender(0, 0);
        for (int k = 0; k < 6; k++) {
            check.due("ward " + k, Check.ward(x, "near " + k + ";open " + (9 - k) + " s=0"), k);
            check.due("THE TEXT is empty", x.count(6), 0);
            check.due("it holds: NEAR", x.told(1), k);
            check.due("it alone", x.shows(0, 0), 1 << (9 - k));
            check.due("how many", x.count(2), k + 1);
        }
    }

    private static void wardFaults() {
        check.promise(11, "-10 less the FAULT (the one that held holds)");
        SignalBlind x = new SignalBlind();
        x.sender(0, 0);
        check.due("an empty text", x.ward(), -10);
        check.due("none held, none holds", x.told(1), 2);
        check.due("no ward came", x.count(2), 0);
        Check.ward(x, "open 3 s=0;near 7");
        check.due("an empty text behind a ward", x.ward(), -10);
        check.due("the first byte", Check.ward(x, "xear 5"), -10);
        check.due("the second", Check.ward(x, "nxar 5"), -11);
        check.due("the end", Check.ward(x, "near 5;open 1 s=0;"), -28);
        String most = "open 1 s=11" + "|s=1".repeat(22);
        check.due("the hundredth", Check.ward(x, most + "x"), -10 - 99);
        check.due("the end of a hundred", Check.ward(x, most + "|"), -10 - 100);
        check.due("THE TEXT is empty behind a fault", x.count(6), 0);
        check.due("the one that held holds: NEAR", x.told(1), 7);
        check.due("the one that held holds", x.shows(0, 0), 8);
        check.due("no ward came", x.count(2), 1);
        check.due("the next one's number", Check.ward(x, "open 4 s=0"), 1);
        check.due("nothing is left of the texts at fault", x.shows(0, 0), 16);
        check.due("nor of their NEAR", x.told(1), 2);
        SignalBlind y = new SignalBlind();
        y.sender(0, 0);
        for (int k = 0; k < 4; k++) {
            check.due("one more at fault at its end", Check.ward(y, most + "&"), -10 - 100);
        }
        check.due("as long a ward behind them", Check.ward(y, most + "0"), 0);
        check.due("it holds of nobody", y.shows(0, 0), 0);
    }

    private static void wardFull() {
        check.promise(11, "FULL: there are 6 (THE TEXT stays)");
        SignalBlind x = new SignalBlind();
        x.sender(0, 0);
        for (int k = 0; k < 5; k++) {
            Check.ward(x, "near " + k);
        }
        check.due("a fault by five", Check.ward(x, "near"), -14);
        check.due("the sixth", Check.ward(x, "near 5"), 5);
        check.due("an empty text", x.ward(), FULL);
        check.due("a ward", Check.ward(x, "near 8"), FULL);
        check.due("THE TEXT stays", x.count(6), 6);
        check.due("again", x.ward(), FULL);
        check.due("THE TEXT stays", x.count(6), 6);
        check.due("FULL ahead of a fault", Check.ward(x, "#"), FULL);
        check.due("THE TEXT stays", x.count(6), 7);
        check.due("the sixth holds", x.told(1), 5);
        check.due("there are 6", x.count(2), 6);
        check.due("feed goes on behind it", x.feed('n'), 8);
    }

    private static void told() {
        check.promise(12, "What 0 HOUR, 1 NEAR");
        SignalBlind x = new SignalBlind();
        check.due("HOUR", x.told(0), 0);
        check.due("NEAR", x.told(1), 2);
        check.promise(12, "NONE");
        for (int no : new int[] {-1, 6, 7, 8, 9, 10, 11, 17, 18, 19, -10, MIN, MAX, MIN + 10, MIN + 17}) {
            check.due("no words: told(" + no + ")", x.told(no), NONE);
        }
        check.promise(12, "10 and w WORD w");
        for (int w = 0; w < 8; w++) {
            check.due("ahead of word " + w, x.told(10 + w), NONE);
            x.word(w == 7 ? 1023 : w);
            check.due("word " + w, x.told(10 + w), w == 7 ? 1023 : w);
        }
        for (int no : new int[] {-1, 6, 7, 8, 9, 18, 19, MIN, MAX, MIN + 10}) {
            check.due("eight words: told(" + no + ")", x.told(no), NONE);
        }
    }

    private static void dueApart(SignalBlind x, int least, int which) {
        check.due("told(2)", x.told(2), least);
        check.due("told(3)", x.told(3), which);
    }

    private static void toldApart() {
        check.promise(12, "2 WORDS APART, 3 which two (-5 each)");
        SignalBlind x = new SignalBlind();
        dueApart(x, -5, -5);
        x.word(0);
        dueApart(x, -5, -5);
        x.word(1023);
        dueApart(x, 10, 1);
        check.terms("which two (10 times the lesser and the greater number; of several the first; -5 each: there are not two)");
        x.word(1);
        dueApart(x, 1, 2);
        x.word(1022);
        dueApart(x, 1, 2);
        x.alter(2, 15);
        dueApart(x, 1, 13);
        x.alter(3, 31);
        dueApart(x, 1, 23);
        for (int k = 4; k < 8; k++) {
            x.word(k == 7 ? 992 : 7 << (2 * k - 6));
        }
        x.alter(6, 992);
        dueApart(x, 0, 67);
        x.alter(0, 992);
        dueApart(x, 0, 6);
    }

    private static void dueNew(SignalBlind x, int sign, int far) {
        check.due("told(4)", x.told(4), sign);
        check.due("told(5)", x.told(5), far);
    }

    private static void toldNew() {
        check.promise(12, "4 NEW, 5 by how much (-5)");
        SignalBlind x = new SignalBlind();
        dueNew(x, 0, -5);
        check.terms("by how much (-5: there are no WORDS; the SIGN is 0 then)");
        dueNew(x, 0, -5);
        x.word(1023);
        dueNew(x, 0, 10);
        x.alter(0, 0);
        dueNew(x, 1023, 10);
        check.terms("NEW: the SIGN of which the least by which it is APART from any WORD is greatest (of several the first)");
        x.word(1023);
        dueNew(x, 31, 5);
        x.word(31);
        dueNew(x, 227, 5);
        SignalBlind y = new SignalBlind();
        for (int k = 0; k < 8; k++) {
            y.word(1023);
        }
        dueNew(y, 0, 10);
    }

    private static void pass() {
        SignalBlind x = new SignalBlind();
        check.promise(13, "BAD");
        for (int no : new int[] {-1, 61, MIN, MAX}) {
            check.due("pass(" + no + ")", x.pass(no), BAD);
        }
        check.due("none went", x.told(0), 0);
        check.promise(13, "n HOURS (0 .. 60) go: HOUR.");
        check.due("none", x.pass(0), 0);
        check.due("one", x.pass(1), 1);
        check.due("most", x.pass(60), 61);
        check.due("HOUR", x.told(0), 61);
    }

    private static SignalBlind at(int hour) {
        SignalBlind x = new SignalBlind();
        for (int left = hour; left > 0; left -= 60) {
            x.pass(Math.min(left, 60));
        }
        return x;
    }

    private static void passTheLast() {
        check.promise(13, "STATE: it would be above 9999");
        SignalBlind x = at(9940);
        check.due("by one above", x.pass(60), STATE);
        check.due("none went", x.told(0), 9940);
        check.due("just to it", x.pass(59), 9999);
        check.due("one", x.pass(1), STATE);
        check.due("most", x.pass(60), STATE);
        check.due("none", x.pass(0), 9999);
        check.due("BAD ahead of STATE", x.pass(61), BAD);
        check.due("BAD ahead of STATE, below 0", x.pass(-1), BAD);
        check.due("HOUR", x.told(0), 9999);
        SignalBlind y = at(9939);
        check.due("by most just to it", y.pass(60), 9999);
        SignalBlind z = at(9998);
        check.due("two from 9998", z.pass(2), STATE);
        check.due("one from 9998", z.pass(1), 9999);
    }
}
