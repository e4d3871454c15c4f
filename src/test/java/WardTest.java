/** Promises 10 (feed), 11 (ward): texts, faults, clauses, tests. */
public final class WardTest {
    private static final Check check = new Check();

    public static void main(String[] args) {
        feeding();
        faults();
        limits();
        deeds();
        letters();
        joints();
        keptAndFull();
        check.end();
    }

    private static void feeding() {
        SignalBlind x = new SignalBlind();
        check.due("feed(-1)", x.feed(-1), SignalBlind.BAD);
        check.due("feed(128)", x.feed(128), SignalBlind.BAD);
        check.due("feed(0)", x.feed(0), 1);
        check.due("feed(127)", x.feed(127), 2);
        for (int k = 3; k <= 100; k++) {
            check.due("feed", x.feed('x'), k);
        }
        check.due("the hundred and first", x.feed('x'), SignalBlind.FULL);
        check.due("BAD is named first", x.feed(128), SignalBlind.BAD);
        check.due("count(6)", x.count(6), 100);
        check.due("a fault at 0", x.ward(), -10);
        check.due("the text is empty", x.count(6), 0);
    }

    private static void fault(String text, int place) {
        SignalBlind x = new SignalBlind();
        check.due("'" + text + "'", Check.ward(x, text), -10 - place);
        check.due("no ward by '" + text + "'", x.count(2), 0);
        check.due("no text is left of '" + text + "'", x.count(6), 0);
    }

    private static void fine(String text) {
        SignalBlind x = new SignalBlind();
        check.due("'" + text + "'", Check.ward(x, text), 0);
        check.due("no text is left of '" + text + "'", x.count(6), 0);
    }

    private static void faults() {
        fault("", 0);
        fault(" ", 0);
        fault("x", 0);
        fault("o", 1);
        fault("oven", 1);
        fault("opan 1 s=1", 2);
        fault("shu", 3);
        fault("shur", 3);
        fault("turm", 3);
        fault("near", 4);
        fault("near;", 4);
        fault("near ", 5);
        fault("near  1", 5);
        fault("near s", 5);
        fault("near 123", 7);
        fault("near 1;", 7);
        fault("near 1;;", 7);
        fault("near 1; near 2", 7);
        fault("near 1 ", 6);
        fault("near 1,near 2", 6);
        fault("open", 4);
        fault("open 1", 6);
        fault("open 12", 7);
        fault("open 123 s=1", 7);
        fault("open 1;", 6);
        fault("open 1 ", 7);
        fault("open 1  s=1", 7);
        fault("open 1 q=1", 7);
        fault("open 1 )", 7);
        fault("open 1 s", 8);
        fault("open 1 s!1", 8);
        fault("open 1 s=", 9);
        fault("open 1 s=k", 9);
        fault("open 1 s==1", 9);
        fault("open 1 s=123", 11);
        fault("open 1 s=1 ", 10);
        fault("open 1 s=1)", 10);
        fault("open 1 s=1|", 11);
        fault("open 1 s=1||s=1", 11);
        fault("open 1 s=1&", 11);
        fault("open 1 s=1&|", 11);
        fault("open 1 s=1!s=1", 10);
        fault("open 1 (s=1", 11);
        fault("open 1 (s=1;", 11);
        fault("open 1 (s=1))", 12);
        fault("open 1 ()", 8);
        fault("open 1 !", 8);
        fault("open 1 !;", 8);
        fault("open 1 (((((s=1)))))", 11);
        fault("open 1 !!!!!s=1", 11);
        fault("open 1 !(!(!s=1))", 11);
        fault("open 1 ((((s=1|(s=1)", 15);
        fault("open 1 s=1;turn", 15);
        fault("open 1 s=1;turn 3 s=1;shut", 26);
        fault("OPEN 1 s=1", 0);
        fault("open 1 s=1;Near 1", 11);
        fine("near 0");
        fine("near 00");
        fine("open 1 s=1");
        fine("shut 99 k<99");
        fine("turn 0 v>0;near 7;near 8;turn 10 o=10");
        fine("open 1 ((((s=1))))");
        fine("open 1 !!!!s=1");
        fine("open 1 !(!(s=1))");
        fine("open 1 ((((s=1))))&((((s=1))))|!!!!f=1");
        fine("open 1 (!(!s=1|k=1)&v=1|(h=1))");
        fine("open 1 !s=1&!s=1&!s=1&!s=1&!s=1&!s=1");
    }

    private static void limits() {
        StringBuilder ten = new StringBuilder("near 1");
        for (int k = 1; k < 10; k++) {
            ten.append(";near 1");
        }
        fine(ten.toString());
        fault(ten + ";", 69);
        fault(ten + ";near 1", 69);
        StringBuilder hundred = new StringBuilder("open 1 s=11");
        while (hundred.length() < 99) {
            hundred.append("|s=1");
        }
        fine(hundred.toString());
        fault(hundred.substring(0, 95) + "&!!!!", 100);
        fault(hundred.substring(0, 99) + "|", 100);
    }

    private static int shown(String text, int sign) {
        SignalBlind x = new SignalBlind();
        x.sender(0, 3);
        Check.ward(x, text);
        return x.shows(0, sign);
    }

    private static void deeds() {
        check.due("no ward", shown("", 37), 37);
        check.due("open", shown("open 4 s=0", 1), 17);
        check.due("open what is open", shown("open 0 s=0", 1), 1);
        check.due("open modulo 10", shown("open 19 s=0", 1), 513);
        check.due("shut", shown("shut 2 s=0", 7), 3);
        check.due("shut what is shut", shown("shut 9 s=0", 7), 7);
        check.due("shut modulo 10", shown("shut 20 s=0", 7), 6);
        check.due("turn", shown("turn 3 s=0", 1), 8);
        check.due("turn past the end", shown("turn 1 s=0", 513), 3);
        check.due("turn by 0", shown("turn 0 s=0", 513), 513);
        check.due("turn by 10", shown("turn 10 s=0", 513), 513);
        check.due("turn by 99", shown("turn 99 s=0", 513), 768);
        check.due("near does nothing", shown("near 9", 513), 513);
        check.due("in order: open, shut", shown("open 0 s=0;shut 0 s=0", 0), 0);
        check.due("in order: shut, open", shown("shut 0 s=0;open 0 s=0", 0), 1);
        check.due("the sign as it came", shown("open 0 o=0;open 1 o=0;open 2 o>0", 0), 3);
        check.due("what does not hold is left", shown("open 0 s=1;open 1 s=0;near 1;open 2 s=1;open 3 s=0", 0), 10);
        check.due("a turn moves what was opened", shown("open 9 s=0;turn 1 s=0;open 9 s=0", 0), 513);
    }

    private static void letters() {
        SignalBlind x = new SignalBlind();
        x.word(0);
        x.sender(1, 7);
        x.sender(3, 9);
        Check.ward(x, "shut 0 s<1;open 1 s=1;open 2 k>2;open 3 k=1;open 4 v<8;open 5 v=9;open 6 v>6");
        check.due("s, k, v of the first", x.shows(0, 1), 2 * (8 + 16 + 64));
        check.due("s, k, v of the second", x.shows(1, 1), 1 + 2 + 4 + 32 + 64 + 512);
        Check.ward(x, "open 0 o<3;open 1 o=3;open 2 o>3");
        check.due("two open", x.shows(0, 512 + 256), 2 * (256 + 1) + 1);
        check.due("three open", x.shows(0, 512 + 256 + 128), 2 * (256 + 128 + 2) + 1);
        check.due("four open", x.shows(0, 512 + 256 + 128 + 64), 2 * (256 + 128 + 64 + 4) + 1);
        Check.ward(x, "open 0 f=0;open 1 f=1;open 2 f>1;open 3 h=0;open 4 h=23;open 5 h>0");
        check.due("nothing sent, hour 0", x.shows(0, 0), 2 * (1 + 8));
        x.say(0, 0);
        x.pass(23);
        check.due("one sent, hour 23", x.shows(0, 0), 2 * (2 + 16 + 32));
        check.due("the other has sent nothing", x.shows(1, 0), 1 + 16 + 32 + 512);
        x.pass(1);
        check.due("hour 24", x.shows(0, 0), 2 * (2 + 8));
        for (int k = 0; k < 9; k++) {
            x.say(0, 0);
        }
        check.due("ten sent", x.shows(0, 0), 2 * (1 + 8));
        check.due("below", shown("open 0 v<3;open 1 v<4;open 2 v=03;open 3 v>3;open 4 v>2", 0), 2 + 4 + 16);
        check.due("nothing is below 0", shown("open 0 s<0;open 1 k<0;open 2 v<0;open 3 o<0;open 4 f<0;open 5 h<0", 0), 0);
        check.due("but below 1", shown("open 0 s<1;open 1 k<1;open 2 v<1;open 3 o<1;open 4 f<1;open 5 h<1", 0), 59);
        check.due("two digits", shown("open 0 v<30;open 1 v=30;open 2 v>30", 0), 1);
    }

    private static void joints() {
        check.due("or", shown("open 0 s=1|s=0;open 1 s=0|s=1;open 2 s=1|s=1;open 3 s=0|s=0", 0), 11);
        check.due("and", shown("open 0 s=1&s=0;open 1 s=0&s=1;open 2 s=1&s=1;open 3 s=0&s=0", 0), 8);
        check.due("and binds ahead of or", shown("open 0 s=0|s=0&s=1;open 1 s=1&s=0|s=0;open 2 s=1&s=0|s=1&s=0", 0), 3);
        check.due("brackets bind first", shown("open 0 (s=0|s=0)&s=1;open 1 s=1&(s=0|s=0)", 0), 0);
        check.due("not is of one", shown("open 0 !s=0|s=0;open 1 !(s=0|s=0);open 2 !!s=0;open 3 !s=1&s=0", 0), 13);
        check.due("three by or", shown("open 0 s=1|s=1|s=0;open 1 s=0&s=0&s=1;open 2 s=0|s=1|s=1", 0), 5);
        check.due("too deep by a bracket", shown("open 0 !(!(s=0&(s=1|s=0)))", 0), 0);
        check.due("too deep by a not", shown("open 0 !(!(s=0&!s=1))", 0), 0);
        check.due("just deep enough", shown("open 0 !(s=1&(s=1|!s=0))", 0), 1);
        check.due("all four", shown("open 0 !(!(s=0&s=0))", 0), 1);
    }

    private static void keptAndFull() {
        SignalBlind x = new SignalBlind();
        x.sender(0, 0);
        check.due("told(1) without a ward", x.told(1), 2);
        check.due("first", Check.ward(x, "open 0 s=0;near 4"), 0);
        check.due("it holds", x.shows(0, 0), 1);
        check.due("NEAR", x.told(1), 4);
        check.due("a fault", Check.ward(x, "near 7;"), -17);
        check.due("the one that held holds", x.told(1), 4);
        check.due("and does what it did", x.shows(0, 0), 1);
        check.due("second", Check.ward(x, "near 3;open 1 s=0;near 0"), 1);
        check.due("the newest holds", x.shows(0, 0), 2);
        check.due("the last NEAR", x.told(1), 0);
        check.due("third", Check.ward(x, "open 2 s=0"), 2);
        check.due("NEAR without", x.told(1), 2);
        check.due("fourth", Check.ward(x, "near 1"), 3);
        check.due("fifth", Check.ward(x, "near 1"), 4);
        check.due("sixth", Check.ward(x, "near 5"), 5);
        check.due("seventh", Check.ward(x, "near 9"), SignalBlind.FULL);
        check.due("the text stays", x.count(6), 6);
        check.due("full ahead of a fault", Check.ward(x, "?"), SignalBlind.FULL);
        check.due("the text stays again", x.count(6), 7);
        check.due("six wards", x.count(2), 6);
        check.due("the sixth holds", x.told(1), 5);
    }
}
