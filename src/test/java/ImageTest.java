/** Promises 29 (image), 30 (undo). */
public final class ImageTest {
    private static final Check check = new Check();

    public static void main(String[] args) {
        allIsAsItWas();
        whatIsNotInTheImage();
        newOnesBehindUndo();
        emptyImage();
        allOfAllSenders();
        check.end();
    }

    private static SignalBlind laidOut() {
        SignalBlind x = new SignalBlind();
        x.word(3);
        x.word(700);
        x.sender(0, 1);
        x.sender(6, 2);
        x.row(1, 0, 5);
        x.say(1, 0);
        x.pass(7);
        x.see(0, 3);
        x.relay(1);
        x.book(0, 3);
        x.book(1, 700);
        Check.ward(x, "open 5 s=0;near 1");
        return x;
    }

    private static void dueLaidOut(SignalBlind x) {
        check.due("words", x.count(1), 2);
        check.due("word 0", x.told(10), 3);
        check.due("word 1", x.told(11), 700);
        check.due("senders", x.count(0), 2);
        check.due("v", x.of(1, 1), 2);
        check.due("KIND", x.of(1, 0), 6);
        check.due("SENT of the first", x.of(0, 2), 0);
        check.due("SENT", x.of(1, 2), 1);
        check.due("HOUR", x.told(0), 7);
        check.due("SEEN", x.count(3), 1);
        check.due("what is SEEN", x.can(0, 0), 0);
        check.due("RELAY", x.count(4), 1);
        check.due("BOOK", x.count(5), 2);
        check.due("looked", x.looked(), -5);
        check.due("the WARD", x.shows(0, 0), 32);
        check.due("NEAR", x.told(1), 1);
    }

    private static void upset(SignalBlind x) {
        x.alter(0, 9);
        x.alter(1, 8);
        x.word(1);
        x.sender(2, 2);
        x.say(0, 0);
        x.say(1, 0);
        x.row(1, 0, 8);
        x.row(1, 1, 1);
        x.pass(60);
        x.see(-1, 0);
        x.see(2, 7);
        x.see(1, 7);
        x.relay(-1);
        x.relay(5);
        x.relay(2);
        x.book(-1, 0);
        x.book(1, 1);
        Check.ward(x, "near 9");
    }

    private static void allIsAsItWas() {
        SignalBlind x = laidOut();
        check.due("no image", x.undo(), SignalBlind.STATE);
        dueLaidOut(x);
        check.due("image()", x.image(), 2);
        dueLaidOut(x);
        upset(x);
        check.due("the image is not touched", x.undo(), 2);
        dueLaidOut(x);
        check.due("ROW 1", x.row(1, 1, 0), 0);
        check.due("ROW 0", x.row(1, 0, 0), 5);
        upset(x);
        check.due("undo() again", x.undo(), 2);
        dueLaidOut(x);
        check.due("ends by the relay", x.ends(0, 0), 7);
        check.due("ROW 0 again", x.row(1, 0, 0), 5);
        upset(x);
        check.due("a newer image", x.image(), 3);
        x.alter(0, 10);
        check.due("undo() to the newer", x.undo(), 3);
        check.due("its word", x.told(10), 9);
        check.due("its NEAR", x.told(1), 9);
    }

    private static void whatIsNotInTheImage() {
        SignalBlind x = laidOut();
        x.image();
        Check.ward(x, "near 4");
        Check.ward(x, "open 1 s=9");
        x.feed('n');
        x.tape(3, 2, 4);
        x.item(3, 1, 77);
        x.act(1, 2, 1);
        x.undo();
        check.due("WARDS", x.count(2), 3);
        check.due("THE TEXT", x.count(6), 1);
        check.due("a TAPE", x.read(3, 1), 77);
        check.due("THE TRACE", x.count(7), 12);
        check.due("its first body", x.trace(0), 40);
        check.due("the number of the next ward", Check.ward(x, "ear 0"), 3);
        check.due("the newest holds", x.told(1), 0);
        x.undo();
        check.due("the one of the image holds", x.told(1), 1);
    }

    private static void newOnesBehindUndo() {
        SignalBlind x = new SignalBlind();
        x.word(0);
        x.image();
        x.word(5);
        x.sender(6, 3);
        x.row(0, 0, 9);
        x.row(0, 3, 9);
        x.say(0, 0);
        check.due("undo() to no senders", x.undo(), 0);
        check.due("no sender", x.shows(0, 0), SignalBlind.NONE);
        check.due("no second word", x.told(11), SignalBlind.NONE);
        check.due("a new sender", x.sender(6, 4), 0);
        check.due("nothing sent", x.of(0, 2), 0);
        check.due("its ROW is 0", x.shows(0, 0), 16);
        check.due("all of it", x.row(0, 3, 1), 0);
        check.due("a new word", x.word(6), 1);
        check.due("its sign", x.told(11), 6);
    }

    private static void emptyImage() {
        SignalBlind x = new SignalBlind();
        check.due("image() of nothing", x.image(), 0);
        Check.ward(x, "near 0");
        x.pass(3);
        check.due("undo()", x.undo(), 0);
        check.due("no WARD holds", x.told(1), 2);
        check.due("HOUR", x.told(0), 0);
        check.due("but there is one", x.count(2), 1);
    }

    private static void allOfAllSenders() {
        SignalBlind x = new SignalBlind();
        for (int k = 0; k < 8; k++) {
            x.word(k);
        }
        for (int s = 0; s < 5; s++) {
            x.sender(6, s);
            for (int part = 0; part < 4; part++) {
                x.row(s, part, (s + part) % 10);
            }
        }
        x.image();
        for (int s = 0; s < 5; s++) {
            x.say(s, s);
            for (int part = 0; part < 4; part++) {
                x.row(s, part, 9);
            }
        }
        for (int k = 0; k < 8; k++) {
            x.alter(k, 1000);
        }
        check.due("undo()", x.undo(), 5);
        for (int s = 0; s < 5; s++) {
            check.due("SENT of " + s, x.of(s, 2), 0);
            for (int part = 0; part < 4; part++) {
                check.due("ROW of " + s + " at " + part, x.row(s, part, 0), (s + part) % 10);
            }
        }
        for (int k = 0; k < 8; k++) {
            check.due("word " + k, x.told(10 + k), k);
        }
    }
}
