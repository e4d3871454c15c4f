/** Promises 4 (sender), 5 (of), 6 (shows), 8 (say), 9 (row). */
public final class SendersTest {
    private static final Check check = new Check();

    public static void main(String[] args) {
        senders();
        shows();
        windAndTold();
        rows();
        said();
        through();
        check.end();
    }

    private static void senders() {
        SignalBlind x = new SignalBlind();
        check.due("sender(-1, 0)", x.sender(-1, 0), SignalBlind.NONE);
        check.due("sender(7, 10)", x.sender(7, 10), SignalBlind.NONE);
        check.due("sender(0, -1)", x.sender(0, -1), SignalBlind.BAD);
        check.due("sender(6, 10)", x.sender(6, 10), SignalBlind.BAD);
        check.due("none came", x.count(0), 0);
        for (int k = 0; k < 5; k++) {
            check.due("sender", x.sender(k + 2, 9 - k), k);
        }
        check.due("the sixth", x.sender(0, 0), SignalBlind.FULL);
        check.due("NONE is named first", x.sender(7, 0), SignalBlind.NONE);
        check.due("BAD is named next", x.sender(0, 10), SignalBlind.BAD);
        for (int k = 0; k < 5; k++) {
            check.due("KIND", x.of(k, 0), k + 2);
            check.due("v", x.of(k, 1), 9 - k);
            check.due("SENT", x.of(k, 2), 0);
        }
        check.due("of(-1, 0)", x.of(-1, 0), SignalBlind.NONE);
        check.due("of(5, 0)", x.of(5, 0), SignalBlind.NONE);
        check.due("of(0, -1)", x.of(0, -1), SignalBlind.NONE);
        check.due("of(0, 5)", x.of(0, 5), SignalBlind.NONE);
        check.due("count(0)", x.count(0), 5);
    }

    private static void shows() {
        SignalBlind x = new SignalBlind();
        check.due("no sender", x.shows(0, 0), SignalBlind.NONE);
        x.sender(0, 4);
        x.sender(1, 4);
        x.sender(2, 4);
        x.sender(3, 2);
        x.sender(4, 4);
        check.due("SENDER", x.shows(0, 517), 517);
        check.due("TILTED", x.shows(1, 517), 11);
        check.due("HALF", x.shows(2, 517), 5);
        check.due("HALF, all open", x.shows(2, 1023), 341);
        check.due("NURSE", x.shows(3, 517), 513);
        check.due("NURSE, the slat shut", x.shows(3, 0), 4);
        check.due("SISTER", x.shows(4, 517), 832);
        check.due("shows(5, 1024)", x.shows(5, 1024), SignalBlind.NONE);
        check.due("shows(-1, 0)", x.shows(-1, 0), SignalBlind.NONE);
        check.due("shows(0, 1024)", x.shows(0, 1024), SignalBlind.BAD);
        check.due("shows(0, -1)", x.shows(0, -1), SignalBlind.BAD);
    }

    private static void windAndTold() {
        SignalBlind x = new SignalBlind();
        x.sender(5, 0);
        x.sender(6, 1);
        check.due("WIND, even", x.shows(0, 517), 5);
        check.due("TOLD", x.shows(1, 517), 519);
        check.due("row(1, 0, 9)", x.row(1, 0, 9), 0);
        check.due("TOLD by its row", x.shows(1, 517), 526);
        x.pass(1);
        check.due("WIND, odd", x.shows(0, 517), 517);
        check.due("TOLD by the next of its row", x.shows(1, 517), 519);
        x.pass(3);
        check.due("WIND, even again", x.shows(0, 517), 5);
        check.due("TOLD by the first again", x.shows(1, 517), 526);
        check.due("CLEAR of WIND, even", x.of(0, 4), 32);
        x.pass(1);
        check.due("CLEAR of WIND, odd", x.of(0, 4), 1024);
        check.due("CLEAR of TOLD", x.of(1, 4), 1024);
        Check.ward(x, "shut 3 s=0;shut 4 s=0;open 5 o>0");
        check.due("CLEAR by a ward", x.of(0, 4), 129);
    }

    private static void rows() {
        SignalBlind x = new SignalBlind();
        x.sender(3, 1);
        x.sender(6, 1);
        check.due("row(-1, 0, 0)", x.row(-1, 0, 0), SignalBlind.NONE);
        check.due("row(2, 0, 10)", x.row(2, 0, 10), SignalBlind.NONE);
        check.due("row(1, -1, 0)", x.row(1, -1, 0), SignalBlind.NONE);
        check.due("row(1, 4, 10)", x.row(1, 4, 10), SignalBlind.NONE);
        check.due("row(0, 4, 0)", x.row(0, 4, 0), SignalBlind.NONE);
        check.due("row(0, 0, 10)", x.row(0, 0, 10), SignalBlind.BAD);
        check.due("row(1, 0, -1)", x.row(1, 0, -1), SignalBlind.BAD);
        check.due("row(0, 0, 9)", x.row(0, 0, 9), SignalBlind.STATE);
        for (int part = 0; part < 4; part++) {
            check.due("row", x.row(1, part, part + 6), 0);
        }
        for (int part = 0; part < 4; part++) {
            check.due("row again", x.row(1, part, 0), part + 6);
        }
    }

    private static void said() {
        SignalBlind x = new SignalBlind();
        x.word(0);
        x.word(2);
        x.word(4);
        x.sender(0, 0);
        x.sender(0, 0);
        Check.ward(x, "open 1 f=0;open 2 f=1;near 0");
        check.due("say(-1, 0)", x.say(-1, 0), SignalBlind.NONE);
        check.due("say(2, 0)", x.say(2, 0), SignalBlind.NONE);
        check.due("say(0, 3)", x.say(0, 3), SignalBlind.NONE);
        check.due("say(0, -1)", x.say(0, -1), SignalBlind.NONE);
        check.due("nothing sent", x.of(0, 2), 0);
        check.due("read by how all was ahead", x.say(0, 0), 1);
        check.due("the second", x.say(0, 0), 2);
        check.due("the third", x.say(0, 0), 0);
        check.due("the other has sent nothing", x.of(1, 2), 0);
        for (int k = 3; k < 10; k++) {
            x.say(0, 0);
        }
        check.due("ten sent", x.of(0, 2), 10);
        check.due("SENT modulo 10", x.say(0, 0), 1);
        x.alter(0, 1);
        check.due("none is read", x.say(0, 0), -5);
        check.due("sent all the same", x.of(0, 2), 12);
    }

    private static void through() {
        SignalBlind x = new SignalBlind();
        x.word(0);
        x.word(0);
        x.word(1023);
        x.word(42);
        x.sender(0, 0);
        x.sender(2, 0);
        x.sender(3, 0);
        check.due("THROUGH, no words alike but one", x.of(0, 3), 13);
        check.due("THROUGH a HALF", x.of(1, 3), 1);
        check.due("THROUGH a NURSE", x.of(2, 3), 13);
        Check.ward(x, "near 0");
        check.due("THROUGH a NURSE, near 0", x.of(2, 3), 0);
        Check.ward(x, "near 3");
        check.due("THROUGH a HALF, near 3: 42 is read as 0", x.of(1, 3), 1);
    }
}
