/**
 * Terms 3: "What is answered so changes nothing; what is asked changes nothing." Each refused call and each asked one,
 * promise by promise: behind it the object tells what one tells that never had the call. And of several refusals that
 * one is answered which the call's words name first.
 */
public final class RefusedTest {
    private static final Check check = new Check();
    private static final int NONE = -1, BAD = -2, STATE = -3, FULL = -4, NOTHING = -11, CAST = -12, PLACE = -13, SIZE = -14;
    private static final long NO = Long.MIN_VALUE;
    private static final String[] EMPTY = {};
    private static final String[] SOME = some();
    private static final String[] MOST = most();
    private static final String[] LATE = late();

    public static void main(String[] args) {
        check.terms("What is answered so changes nothing; what is asked changes nothing.");
        wordsAndSenders();
        textsAndHours();
        seenAndMeant();
        rowsByHand();
        judgedAndTaken();
        tapes();
        check.terms("the first that a call's words name");
        namedFirst();
        check.terms("what is asked changes nothing");
        asked();
        check.end();
    }

    // 3 words, 3 senders (the second a TOLD one), 2 rows seen, 3 of the relay, 2 of the book, 1 ward, a text begun.
    private static String[] some() {
        return lines("word 3;word 700;word 5;sender 0 1;sender 6 2;sender 5 0;row 1 0 5;row 1 2 6;say 1 0;pass 7;"
            + "see 0 7;see 0 15;relay 1;relay 5;relay 2;book 0 3;book 1 9;" + fed("open 5 s=0") + "ward;"
            + "tape 0 1 4;item 0 0 3;item 0 1 700;item 0 2 9;tape 1 1 3;item 1 1 8;tape 2 3 2;tape 3 1 0;"
            + "image;alter 2 6;say 0 0;row 1 0 4;act 1 2 3;" + fed("near 4"));
    }

    // As many of all as there can be, and a text that is no ward.
    private static String[] most() {
        StringBuilder b = new StringBuilder();
        for (int k = 0; k < 8; k++) {
            b.append("word ").append(100 + k).append(';');
        }
        for (int k = 0; k < 5; k++) {
            b.append("sender ").append(6 - k).append(' ').append(k).append(";see ").append(k).append(" 1;");
        }
        for (int k = 0; k < 8; k++) {
            b.append("relay ").append(k % 6).append(";book ").append(k).append(' ').append(100 + k).append(';');
        }
        for (int k = 0; k < 6; k++) {
            b.append(fed("near " + k)).append("ward;");
        }
        return lines(b + "tape 0 0 1;" + fed("x".repeat(100)));
    }

    private static String[] late() {
        return lines("word 3;sender 5 0;" + "pass 60;".repeat(166) + "pass 39");
    }

    private static String[] lines(String calls) {
        return calls.split(";");
    }

    private static String fed(String text) {
        StringBuilder b = new StringBuilder();
        for (int k = 0; k < text.length(); k++) {
            b.append("feed ").append((int) text.charAt(k)).append(';');
        }
        return b.toString();
    }

    private static SignalBlind made(String[] calls) {
        SignalBlind x = new SignalBlind();
        for (String call : calls) {
            Calls.call(x, call);
        }
        return x;
    }

    private static void refused(String[] calls, long want, String... refused) {
        String untouched = Snapshot.of(made(calls));
        for (String call : refused) {
            SignalBlind x = made(calls);
            check.due(call, Calls.call(x, call), want);
            String told = Snapshot.of(x);
            check.due(call + ": all is as it was; " + told + " <> " + untouched + ":", told.equals(untouched) ? 1 : 0, 1);
        }
    }

    private static void wordsAndSenders() {
        refused(SOME, BAD, "word -1", "word 1024", "word " + Integer.MIN_VALUE, "word " + Integer.MAX_VALUE);
        refused(MOST, FULL, "word 0", "word 1023");
        refused(SOME, NONE, "alter -1 9", "alter 3 9", "alter " + Integer.MAX_VALUE + " 9");
        refused(MOST, NONE, "alter 8 9");
        refused(EMPTY, NONE, "alter 0 0");
        refused(SOME, BAD, "alter 0 -1", "alter 2 1024");
        refused(SOME, NONE, "sender -1 0", "sender 7 0", "sender " + Integer.MIN_VALUE + " 0");
        refused(SOME, BAD, "sender 0 -1", "sender 6 10", "sender 1 " + Integer.MAX_VALUE);
        refused(MOST, FULL, "sender 0 0", "sender 6 9");
        refused(SOME, NONE, "of -1 0", "of 3 0", "of 0 -1", "of 0 5", "of " + Integer.MAX_VALUE + " 4");
        refused(EMPTY, NONE, "of 0 0");
        refused(SOME, NONE, "shows -1 0", "shows 3 0");
        refused(SOME, BAD, "shows 0 -1", "shows 2 1024");
        refused(SOME, BAD, "meaning -1", "meaning 1024", "meaning " + Integer.MIN_VALUE);
        refused(SOME, NONE, "say -1 0", "say 3 0", "say 0 -1", "say 0 3");
        refused(SOME, NONE, "row -1 0 1", "row 3 0 1", "row 1 -1 1", "row 1 4 1");
        refused(SOME, BAD, "row 1 0 -1", "row 1 3 10");
        refused(SOME, STATE, "row 0 0 1", "row 2 3 9");
    }

    private static void textsAndHours() {
        refused(SOME, BAD, "feed -1", "feed 128", "feed " + Integer.MAX_VALUE);
        refused(MOST, FULL, "feed 0", "feed 127", "feed 110");
        refused(MOST, FULL, "ward");
        refused(SOME, NONE, "told -1", "told 6", "told 9", "told 13", "told " + Integer.MIN_VALUE);
        refused(MOST, NONE, "told 18");
        refused(SOME, BAD, "pass -1", "pass 61", "pass " + Integer.MIN_VALUE, "pass " + Integer.MAX_VALUE);
        refused(LATE, STATE, "pass 1", "pass 60");
    }

    private static void seenAndMeant() {
        refused(SOME, NONE, "saying -1 0 0", "saying 3 0 0", "saying 0 -1 0", "saying 0 3 1", "saying 0 0 -1", "saying 0 0 2");
        refused(SOME, NONE, "hours -1 0", "hours 3 0", "hours 0 -1", "hours 0 3");
        refused(SOME, NONE, "senders -1 0", "senders 3 0");
        refused(SOME, BAD, "senders 0 -1", "senders 2 1024");
        refused(SOME, NONE, "meant -1 0", "meant 3 0");
        refused(SOME, BAD, "meant 0 -1", "meant 2 1024");
        refused(SOME, NONE, "passed -1 0", "passed 3 0", "passed 0 -2", "passed 0 5");
        refused(SOME, NONE, "see -2 0", "see 3 0");
        refused(SOME, BAD, "see 0 -1", "see 2 1024");
        refused(MOST, FULL, "see 0 0", "see 7 1023");
        refused(SOME, NONE, "can -1 0", "can 3 0", "can 0 -1", "can 0 2");
        refused(SOME, NONE, "when -1 0", "when 3 0", "when 0 -1", "when 0 2");
        refused(SOME, NO, "odds -1 0 0", "odds 3 0 0", "odds 0 -1 0", "odds 0 3 0", "odds 0 0 -1", "odds 0 0 2");
        refused(SOME, NO, "mean -1", "mean 2");
        refused(EMPTY, NO, "mean 0", "mean 1", "odds 0 0 0");
    }

    private static void rowsByHand() {
        refused(SOME, NONE, "relay -2", "relay 3", "relay 4", "relay 6");
        refused(MOST, FULL, "relay 0", "relay 4", "relay 5");
        refused(SOME, NONE, "ends -1 0", "ends 3 0", "ends 0 -1", "ends 0 2");
        refused(SOME, NONE, "book -2 0", "book 3 0");
        refused(SOME, BAD, "book 0 -1", "book 2 1024");
        refused(MOST, FULL, "book 0 0", "book 7 1023");
    }

    private static void judgedAndTaken() {
        refused(SOME, NONE, "judge -1 0", "judge 6 0");
        refused(SOME, CAST, "judge 2 0", "judge 2 -1");
        refused(EMPTY, STATE, "undo");
        refused(lines("word 3;sender 6 1;row 0 0 2"), STATE, "undo");
        refused(SOME, NONE, "trace -1", "trace 12", "trace 20", "trace " + Integer.MAX_VALUE);
        refused(SOME, BAD, "taken 0 -1", "taken 0 7");
        refused(SOME, NOTHING, "taken -1 0", "taken 3 6");
        refused(SOME, CAST, "taken 0 1", "taken 1 5", "taken 2 6");
        refused(SOME, BAD, "count -1", "count 8", "count " + Integer.MAX_VALUE);
    }

    private static void tapes() {
        refused(SOME, NONE, "tape -1 0 1", "tape 6 0 1", "tape 6 -1 0");
        refused(SOME, BAD, "tape 0 -2 1", "tape 0 5 1", "tape 0 0 61");
        refused(SOME, SIZE, "tape 0 0 -1", "tape 0 4 " + Integer.MIN_VALUE);
        refused(SOME, NONE, "item -1 0 1", "item 6 0 1");
        refused(SOME, NOTHING, "item 5 0 1");
        refused(SOME, PLACE, "item 0 -1 1", "item 0 4 1", "item 3 0 1");
        refused(SOME, NO, "read -1 0", "read 6 0", "read 5 0", "read 0 -1", "read 0 4", "read 3 0");
        refused(SOME, NONE, "shift -1 0 1 0 1", "shift 6 0 1 0 1", "shift 0 0 -1 0 1", "shift 0 0 6 0 1");
        refused(SOME, NOTHING, "shift 5 0 0 0 1", "shift 0 0 5 0 1", "shift 5 0 5 0 0");
        refused(SOME, CAST, "shift 0 0 2 0 1", "shift 2 0 0 0 1");
        refused(SOME, PLACE, "shift 0 -1 1 0 1", "shift 0 0 1 -1 1", "shift 0 0 1 0 -1", "shift 0 3 1 0 2",
            "shift 0 0 1 2 2", "shift 0 5 1 0 0", "shift 0 0 1 4 0", "shift 0 0 1 0 4", "shift 0 2147483647 1 0 1");
    }

    private static void namedFirst() {
        refused(MOST, BAD, "word -1", "word 1024");
        refused(SOME, NONE, "alter 3 -1", "alter -1 1024");
        refused(MOST, NONE, "sender 7 0", "sender -1 10");
        refused(SOME, NONE, "sender 7 10");
        refused(MOST, BAD, "sender 0 10", "sender 6 -1");
        refused(SOME, NONE, "shows 3 1024", "shows -1 -1");
        refused(SOME, NONE, "row 3 0 10", "row 1 4 10", "row 0 4 1", "row 0 -1 10");
        refused(SOME, BAD, "row 0 0 10", "row 2 3 -1");
        refused(MOST, BAD, "feed -1", "feed 128");
        refused(LATE, BAD, "pass -1", "pass 61");
        refused(SOME, NONE, "senders 3 1024", "meant 3 1024", "see 3 1024", "book 3 1024");
        refused(MOST, NONE, "see 8 0", "see 8 1024", "book 8 0", "book -2 -1", "relay 6", "relay -2");
        refused(MOST, BAD, "see 0 1024", "book 0 -1");
        refused(SOME, BAD, "taken 3 7", "taken -1 -1");
        refused(SOME, NONE, "tape 6 5 61", "tape -1 -2 -1", "tape 6 0 -1");
        refused(SOME, BAD, "tape 0 5 -1", "tape 0 -2 -1", "tape 0 5 61");
        refused(SOME, NONE, "item 6 -1 0");
        refused(SOME, NOTHING, "item 5 -1 0");
        refused(SOME, NONE, "shift 6 -1 5 0 1", "shift 5 0 6 0 -1");
        refused(SOME, NOTHING, "shift 5 -1 0 0 1", "shift 2 0 5 0 -1");
        refused(SOME, CAST, "shift 0 -1 2 0 1", "shift 2 0 0 9 1", "shift 0 0 2 0 -1");
    }

    private static void same(String[] calls, String... asked) {
        String untouched = Snapshot.of(made(calls));
        for (String call : asked) {
            SignalBlind x = made(calls);
            long first = Calls.call(x, call);
            check.due(call + " asked again", Calls.call(x, call), first);
            String told = Snapshot.of(x);
            check.due(call + ": all is as it was; " + told + " <> " + untouched + ":", told.equals(untouched) ? 1 : 0, 1);
        }
    }

    private static void asked() {
        same(SOME, "of 0 0", "of 1 1", "of 1 2", "of 1 3", "of 2 4", "shows 1 3", "meaning 3", "told 0", "told 1", "told 2",
            "told 3", "told 4", "told 5", "told 11", "pass 0", "saying 0 0 0", "saying 1 0 1", "hours 1 0", "senders 0 3",
            "meant 1 3", "passed 0 -1", "passed 1 2", "can 0 0", "can 1 1", "when 0 1", "when 2 0", "odds 1 0 0",
            "odds 2 1 1", "mean 0", "mean 1", "ends 0 0", "ends 1 1", "looked", "judge 0 0", "judge 5 0", "judge 0 -1",
            "trace 0", "taken 1 0", "taken 1 6", "count 0", "count 6", "count 7", "read 0 1", "shift 0 1 1 1 0");
        same(MOST, "passed 7 -1", "passed 0 4", "can 4 0", "when 0 1", "hours 4 7", "saying 3 3 1", "of 4 4", "ends 7 0",
            "told 4", "told 3");
        same(LATE, "hours 0 0", "when 0 1", "pass 0");
    }
}
