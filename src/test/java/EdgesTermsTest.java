/** Terms 1, sentence by sentence: the limits of signs, texts and wards, what goes round at an end, who shows what. */
public final class EdgesTermsTest {
    private static final Check check = new Check();
    private static final int NONE = -5;

    public static void main(String[] args) {
        signs();
        textOfAHundred();
        clauses();
        betweenClauses();
        blanks();
        digits();
        verbs();
        joints();
        factors();
        tests();
        allNumbers();
        nested();
        deep();
        faultAtTheEnd();
        everyByte();
        near();
        blind();
        turns();
        kinds();
        rowOfATold();
        read();
        through();
        said();
        check.end();
    }

    private static void due(String text, int answer) {
        SignalBlind x = new SignalBlind();
        check.due("'" + text + "'", Check.ward(x, text), answer);
        check.due("'" + text + "': wards", x.count(2), answer == 0 ? 1 : 0);
    }

    private static void fault(String text, int place) {
        due(text, -10 - place);
    }

    private static void fine(String text) {
        due(text, 0);
    }

    /** What a sender of a KIND with v shows by a ward; an empty text is none. */
    private static int shown(int kind, int v, String text, int sign) {
        SignalBlind x = new SignalBlind();
        x.sender(kind, v);
        if (!text.isEmpty()) {
            check.due("'" + text + "'", Check.ward(x, text), 0);
        }
        return x.shows(0, sign);
    }

    private static boolean holds(SignalBlind x, int sender, int sign, String test) {
        int plain = x.shows(sender, sign);
        Check.ward(x, "turn 1 " + test);
        int shown = x.shows(sender, sign);
        x.undo();
        return shown != plain;
    }

    private static void signs() {
        check.terms("a SIGN is told as bits (0 .. 1023; bit s: SLAT s is open)");
        for (int s = 0; s < 10; s++) {
            check.due("slat " + s + " opens", shown(0, 0, "open " + s + " s=0", 0), 1 << s);
            check.due("slat " + s + " is shut", shown(0, 0, "shut " + s + " s=0", 1023), 1023 - (1 << s));
        }
        check.terms("APART two SIGNS are by as many SLATS as are unlike");
        int[][] pairs = {{0, 0, 0}, {1023, 1023, 0}, {0, 1, 1}, {1023, 511, 1}, {512, 1, 2}, {0, 1023, 10}, {341, 682, 10}};
        for (int[] pair : pairs) {
            SignalBlind x = new SignalBlind();
            x.word(pair[0]);
            x.word(pair[1]);
            check.due(pair[0] + " and " + pair[1], x.told(2), pair[2]);
        }
        check.terms("SENT (how often, 0 .. 9999; 0 at first)");
        SignalBlind x = new SignalBlind();
        x.sender(6, 9);
        check.due("of(0, 2)", x.of(0, 2), 0);
        check.terms("HOUR: 0 at first");
        check.due("told(0)", x.told(0), 0);
        check.due("count(6)", x.count(6), 0);
    }

    private static void textOfAHundred() {
        check.terms("THE TEXT (bytes, 100 at most)");
        String most = "open 3 s=09" + "|s=9".repeat(21);
        check.due("of 100 bytes the last counts", shown(0, 0, most + "|s=00", 0), 8);
        check.due("of 100 bytes the last counts: 9", shown(0, 0, most + "|s=09", 0), 0);
        SignalBlind x = new SignalBlind();
        Check.ward(x, "");
        for (int k = 1; k <= 100; k++) {
            check.due("feed", x.feed((most + "|s=00").charAt(k - 1)), k);
        }
        check.due("one more", x.feed('0'), SignalBlind.FULL);
        check.due("it is no part of the ward", x.ward(), 0);
        fault(most + "|s=0|", 100);
        fault(most + "|s=0;", 100);
        fine(most + "|!s=0");
    }

    private static void clauses() {
        check.terms("CLAUSES, 1 to 10, with ; between");
        fault("", 0);
        fine("near 1");
        StringBuilder b = new StringBuilder("near 0");
        for (int k = 1; k < 10; k++) {
            b.append(";near ").append(k);
        }
        SignalBlind x = new SignalBlind();
        check.due("ten", Check.ward(x, b.toString()), 0);
        check.due("the tenth is read", x.told(1), 9);
        fault(b + ";", 69);
        fault(b + ";near 1", 69);
        fault(b + ";x", 69);
        String seven = "open 0 s=0;open 1 s=0;open 2 s=0;open 3 s=0;open 4 s=0;open 5 s=0;";
        check.due("of ten the last does it", shown(0, 0, seven + "near 1;near 1;near 1;open 9 s=0", 0), 575);
    }

    private static void betweenClauses() {
        check.terms("with ; between");
        fault(";", 0);
        fault(";near 1", 0);
        fault("near 1;", 7);
        fault("near 1;;near 1", 7);
        fault("near 1 ;near 1", 6);
        fault("near 1; near 1", 7);
        fault("near 1near 1", 6);
        fault("near 1,near 1", 6);
        fault("near 1:near 1", 6);
        fault("near 1<near 1", 6);
        fine("near 1;near 1");
        fine("near 1;open 1 s=0");
        fine("open 1 s=0;near 1");
        fine("turn 1 s=0;shut 1 s=0");
    }

    private static void blanks() {
        check.terms("(one blank ahead of each part behind the word; n 1 or 2 digits)");
        fault(" near 1", 0);
        fault("near1", 4);
        fault("near  1", 5);
        fault("near 1 ", 6);
        fault("near\t1", 4);
        fault("near!1", 4);
        fault("open1 s=0", 4);
        fault("open  1 s=0", 5);
        fault("open 1s=0", 6);
        fault("open 12s=0", 7);
        fault("open 1  s=0", 7);
        fault("open 1 s =0", 8);
        fault("open 1 s= 0", 9);
        fault("open 1 s=0 ", 10);
        fault("open 1 s=0 &s=0", 10);
        fault("open 1 s=0& s=0", 11);
        fault("open 1 ( s=0)", 8);
        fault("open 1 ! s=0", 8);
        fault("open 1 (s=0 )", 11);
    }

    private static void digits() {
        check.terms("n 1 or 2 digits");
        fault("near ", 5);
        fault("near ;", 5);
        fault("near -1", 5);
        fault("near /", 5);
        fault("near :", 5);
        fault("near 1/", 6);
        fault("near 1:", 6);
        fault("near 100", 7);
        fault("near 000", 7);
        fault("open s=0", 5);
        fault("open 100 s=0", 7);
        fault("shut 100 s=0", 7);
        fault("turn 100 s=0", 7);
        check.terms("a number (1 or 2 digits)");
        fault("open 1 s=", 9);
        fault("open 1 s=;", 9);
        fault("open 1 s=/", 9);
        fault("open 1 s=:", 9);
        fault("open 1 s=100", 11);
        fault("open 1 s=000", 11);
        fault("open 1 s=-1", 9);
        for (String n : new String[] {"0", "9", "00", "09", "10", "90", "99"}) {
            SignalBlind x = new SignalBlind();
            check.due("near " + n, Check.ward(x, "near " + n), 0);
            check.due("NEAR of " + n, x.told(1), Integer.parseInt(n));
            fine("open " + n + " s=" + n);
            fine("shut " + n + " s<" + n);
            fine("turn " + n + " s>" + n);
        }
    }

    private static void verbs() {
        check.terms("open n E; shut n E; turn n E; near n");
        for (String verb : new String[] {"open", "shut", "turn", "near"}) {
            for (int k = 0; k < 4; k++) {
                fault(verb.substring(0, k), k);
                fault(verb.substring(0, k) + "x" + verb.substring(k + 1) + " 1", k);
                fault(verb.substring(0, k) + (char) (verb.charAt(k) - 32) + verb.substring(k + 1) + " 1", k);
            }
            fault(verb, 4);
            fault(verb + verb, 4);
        }
        fault("near 1 s=0", 6);
        fault("open 1", 6);
        fault("shut 12", 7);
        fault("turn 1 ", 7);
        fault("open 1;near 1", 6);
        fault("turn 1 ;near 1", 7);
    }

    private static void joints() {
        check.terms("E: T or T|E. T: F or F&T.");
        for (String joint : new String[] {"|", "&"}) {
            fault("open 1 " + joint, 7);
            fault("open 1 " + joint + "s=0", 7);
            fault("open 1 s=0" + joint, 11);
            fault("open 1 s=0" + joint + ";near 1", 11);
            fault("open 1 s=0" + joint + "|s=0", 11);
            fault("open 1 s=0" + joint + "&s=0", 11);
            fault("open 1 s=0" + joint + ")", 11);
            fault("open 1 (s=0" + joint + ")", 12);
            fault("near 1" + joint + "near 1", 6);
            fault("open 1" + joint + " s=0", 6);
        }
        fault("open 1 s=0s=0", 10);
        fault("open 1 s=0(s=0)", 10);
        fault("open 1 (s=0)s=0", 12);
        // y holds of it and n doesn't; by all joints of four, as & binds ahead of |.
        for (int k = 0; k < 16 * 8; k++) {
            boolean[] is = new boolean[4];
            StringBuilder e = new StringBuilder();
            for (int j = 0; j < 4; j++) {
                is[j] = (k >> j) % 2 == 1;
                e.append(j == 0 ? "" : (k >> (3 + j)) % 2 == 1 ? "|" : "&").append(is[j] ? "s=0" : "s=1");
            }
            boolean all = false;
            boolean some = is[0];
            for (int j = 1; j < 4; j++) {
                boolean or = (k >> (3 + j)) % 2 == 1;
                all |= or && some;
                some = or ? is[j] : some && is[j];
            }
            check.due(e + " holds", shown(0, 0, "open 0 " + e, 0), all || some ? 1 : 0);
        }
    }

    private static void factors() {
        check.terms("F: !F, (E), or a TEST");
        fault("open 1 !", 8);
        fault("open 1 (", 8);
        fault("open 1 !;", 8);
        fault("open 1 ()", 8);
        fault("open 1 )", 7);
        fault("open 1 !)", 8);
        fault("open 1 (s=0", 11);
        fault("open 1 (s=0;near 1", 11);
        fault("open 1 (s=0))", 12);
        fault("open 1 s=0)", 10);
        fault("open 1 s=0!", 10);
        fault("open 1 s=!0", 9);
        fault("open 1 (s)=0", 9);
        check.due("! of what holds", shown(0, 0, "open 0 !s=0", 0), 0);
        check.due("! of what doesn't", shown(0, 0, "open 0 !s=1", 0), 1);
        check.due("!!", shown(0, 0, "open 0 !!s=0", 0), 1);
        check.due("! is of the F alone", shown(0, 0, "open 0 !s=1&s=0|s=1", 0), 1);
        check.due("! is of the F alone: |", shown(0, 0, "open 0 !s=0|s=0", 0), 1);
        check.due("! of brackets", shown(0, 0, "open 0 !(s=0|s=0)", 0), 0);
        check.due("brackets bind", shown(0, 0, "open 0 (s=0|s=0)&s=1", 0), 0);
        check.due("without them", shown(0, 0, "open 0 s=0|s=0&s=1", 0), 1);
    }

    /** Five senders with no ward that holds, in the image; it has room for wards still. */
    private static SignalBlind five(int hours, int sent) {
        SignalBlind x = new SignalBlind();
        x.word(0);
        for (int s = 0; s < 5; s++) {
            x.sender(s == 4 ? 6 : s == 3 ? 5 : s, s == 4 ? 9 : s);
        }
        x.say(1, 0);
        for (int k = 0; k < sent; k++) {
            x.say(4, 0);
        }
        for (int k = hours; k > 0; k -= 60) {
            x.pass(Math.min(k, 60));
        }
        x.image();
        return x;
    }

    private static void borders(int hours, int sent, int sender, int sign, char letter, int n) {
        for (int part = 0; part < 2; part++) {
            // Six wards are all an object takes: so the nine tests are asked of two objects.
            SignalBlind x = five(hours, sent);
            String[] some = {"=" + n, "<" + n, ">" + n, "<" + (n + 1), ">" + (n + 1), "=" + (n + 1)};
            int[] so = {1, 0, 0, 1, 0, 0};
            String[] less = {">" + (n - 1), "<" + (n - 1), "=" + (n - 1)};
            int[] lessSo = {1, 0, 0};
            String[] asked = part == 0 ? some : n > 0 ? less : new String[0];
            for (int k = 0; k < asked.length; k++) {
                boolean holds = holds(x, sender, sign, letter + asked[k]);
                check.due(letter + asked[k] + " of " + n, holds ? 1 : 0, part == 0 ? so[k] : lessSo[k]);
            }
        }
    }

    private static void tests() {
        check.terms("a letter, < or = or >, a number (1 or 2 digits): of a SENDER and a SIGN s the number of the one");
        borders(0, 0, 0, 1, 's', 0);
        borders(0, 0, 4, 1, 's', 4);
        check.terms("k its KIND");
        borders(0, 0, 0, 1, 'k', 0);
        borders(0, 0, 4, 1, 'k', 6);
        check.terms("v its v");
        borders(0, 0, 0, 1, 'v', 0);
        borders(0, 0, 4, 1, 'v', 9);
        check.terms("o how many SLATS of the SIGN are open");
        borders(0, 0, 0, 1, 'o', 1);
        borders(0, 0, 0, 1022, 'o', 9);
        borders(0, 0, 4, 511, 'o', 9);
        check.due("o=0", shown(0, 0, "open 3 o=0", 0), 8);
        check.due("o<1", shown(0, 0, "open 3 o<1", 0), 8);
        check.due("o=10", shown(0, 0, "shut 3 o=10", 1023), 1015);
        check.due("o>9", shown(0, 0, "shut 3 o>9", 1023), 1015);
        check.due("o<10", shown(0, 0, "shut 3 o<10", 1023), 1023);
        check.terms("f SENT modulo 10");
        borders(0, 0, 4, 1, 'f', 0);
        borders(0, 9, 4, 1, 'f', 9);
        borders(0, 10, 4, 1, 'f', 0);
        borders(0, 11, 4, 1, 'f', 1);
        borders(0, 19, 4, 1, 'f', 9);
        borders(0, 20, 1, 1, 'f', 1);
        check.terms("h HOUR modulo 24");
        borders(0, 0, 0, 1, 'h', 0);
        borders(23, 0, 0, 1, 'h', 23);
        borders(24, 0, 0, 1, 'h', 0);
        borders(25, 0, 0, 1, 'h', 1);
        borders(47, 0, 0, 1, 'h', 23);
        borders(48, 0, 0, 1, 'h', 0);
        borders(9984, 0, 0, 1, 'h', 0);
        borders(9999, 0, 0, 1, 'h', 15);
    }

    /** Each letter, sign between and number from 0 to 99: of the last sender, by which no two letters tell the same. */
    private static void allNumbers() {
        check.terms("a letter, < or = or >, a number (1 or 2 digits)");
        allNumbers(0, 0, 0, 1, new int[] {0, 0, 0, 1, 0, 0});
        allNumbers(22, 3, 4, 31 << 4, new int[] {4, 6, 9, 5, 3, 22});
    }

    private static void allNumbers(int hours, int sent, int sender, int sign, int[] facts) {
        for (int letter = 0; letter < 6; letter++) {
            for (int between = 0; between < 3; between++) {
                SignalBlind x = null;
                for (int n = 0; n < 100; n++) {
                    x = n % 6 == 0 ? five(hours, sent) : x;
                    String test = "skvofh".charAt(letter) + ("<=>".charAt(between) + (n % 2 == 0 && n < 10 ? "0" : "")) + n;
                    int fact = facts[letter];
                    boolean so = between == 0 ? fact < n : between == 1 ? fact == n : fact > n;
                    check.due(test, holds(x, sender, sign, test) ? 1 : 0, so ? 1 : 0);
                }
            }
        }
    }

    // What stands here is made from a row of numbers, so that it is the same each time.
    private static long seed = 1;

    private static int below(int n) {
        seed = seed * 6364136223846793005L + 1442695040888963407L;
        return (int) ((seed >>> 33) % n);
    }

    /** Puts a T|E, F&T or F of a depth behind the text: whether it holds of sender 0. */
    private static boolean put(StringBuilder text, int form, int depth) {
        if (form < 2) {
            boolean some = put(text, form + 1, depth);
            for (int more = below(3); more > 0; more--) {
                text.append(form == 0 ? '|' : '&');
                boolean next = put(text, form + 1, depth);
                some = form == 0 ? some | next : some & next;
            }
            return some;
        }
        int how = depth < 4 ? below(5) : 4;
        if (how < 2) {
            text.append('(');
            boolean inside = put(text, 0, depth + 1);
            text.append(')');
            return inside;
        }
        if (how == 2) {
            text.append('!');
            return !put(text, 2, depth + 1);
        }
        boolean so = below(2) == 0;
        text.append(so ? "s=0" : "s=1");
        return so;
    }

    private static void nested() {
        check.terms("E: T or T|E. T: F or F&T. F: !F, (E), or a TEST");
        int many = 0;
        for (int k = 0; k < 100000 && many < 2000; k++) {
            StringBuilder text = new StringBuilder("open 0 ");
            boolean so = put(text, 0, 0);
            if (text.length() <= 100) {
                check.due(text.toString(), shown(0, 0, text.toString(), 0), so ? 1 : 0);
                many++;
            }
        }
        check.due("so many were asked", many, 2000);
        check.due("the first of three by |", shown(0, 0, "open 0 s=0|(s=1|s=0&s=1)", 0), 1);
        check.due("the first of five", shown(0, 0, "open 0 s=0|(s=1|(s=1|(s=1|(s=1|s=0&s=1))))", 0), 1);
    }

    private static void deep() {
        check.terms("A ( or ! within 4 others is none.");
        for (int bits = 0; bits < 16; bits++) {
            StringBuilder ahead = new StringBuilder();
            StringBuilder behind = new StringBuilder();
            for (int k = 0; k < 4; k++) {
                boolean bracket = (bits >> k) % 2 == 1;
                ahead.append(bracket ? '(' : '!');
                behind.append(bracket ? ")" : "");
            }
            fine("open 1 " + ahead + "s=0" + behind);
            fault("open 1 " + ahead + "!s=0" + behind, 11);
            fault("open 1 " + ahead + "(s=0)" + behind, 11);
            fault("open 1 " + ahead + "(", 11);
        }
        fine("open 1 ((((s=0))))&((((s=0))))|!!!!s=0&(!(!s=0))");
        fine("open 1 ((((s=0))));shut 1 !!!!s=0");
        fine("open 1 (((!s=0&!s=0|(s=0))))");
        fault("open 1 ((((s=0&!s=0))))", 15);
        fault("open 1 ((((s=0|(s=0)))))", 15);
        fault("open 1 ((((s=0)))&((((s=0", 21);
        fine("open 1 ((((s=0)))&(((s=0))))");
        check.due("four ! hold", shown(0, 0, "open 0 !!!!s=0", 0), 1);
        check.due("four of both", shown(0, 0, "open 0 !(!(s=0&s=0))", 0), 1);
    }

    private static void faultAtTheEnd() {
        check.terms("the place of the first byte with which none begins so (the end of THE TEXT, if it ends too early)");
        String text = "turn 12 !(s=1|k<2)&v>3;near 45";
        String[] whole = {"turn 12 !(s=1|k<2)", "turn 12 !(s=1|k<2)&v>3", "turn 12 !(s=1|k<2)&v>3;near 4", text};
        for (int k = 0; k <= text.length(); k++) {
            String begun = text.substring(0, k);
            boolean is = false;
            for (String one : whole) {
                is |= one.equals(begun);
            }
            due(begun, is ? 0 : -10 - k);
            if (k < text.length()) {
                // No ward goes on by a blank's neighbour '#', wherever it stands.
                fault(begun + "#" + text.substring(k + 1), k);
            }
        }
    }

    /** Behind some text each byte of the 128: whole by it, or begun so, or none. */
    private static void bytes(String ahead, String goOn, String whole) {
        for (int b = 0; b < 128; b++) {
            int place = ahead.length() + (goOn.indexOf(b) >= 0 ? 1 : 0);
            due(ahead + (char) b, whole.indexOf(b) >= 0 ? 0 : -10 - place);
        }
    }

    private static void everyByte() {
        check.terms("The FAULT: the place of the first byte with which none begins so");
        bytes("", "ostn", "");
        bytes("o", "p", "");
        bytes("s", "h", "");
        bytes("t", "u", "");
        bytes("n", "e", "");
        bytes("ope", "n", "");
        bytes("near", " ", "");
        bytes("near ", "", "0123456789");
        bytes("near 1", ";", "0123456789");
        bytes("near 12", ";", "");
        bytes("near 1;", "ostn", "");
        bytes("open ", "0123456789", "");
        bytes("open 1", " 0123456789", "");
        bytes("open 12", " ", "");
        bytes("open 1 ", "skvofh!(", "");
        bytes("open 1 s", "<=>", "");
        bytes("open 1 h<", "", "0123456789");
        bytes("open 1 f>1", "&|;", "0123456789");
        bytes("open 1 f>12", "&|;", "");
        bytes("open 1 o=1&", "skvofh!(", "");
        bytes("open 1 o=1|", "skvofh!(", "");
        bytes("open 1 (o=12", "&|", ")");
        bytes("open 1 (o=1)", "&|;", "");
        bytes("open 1 !", "skvofh!(", "");
        bytes("open 1 (!((", "skvofh", "");
    }

    private static void near() {
        check.terms("NEAR (2 without): the last one's n.");
        SignalBlind x = new SignalBlind();
        check.due("no ward", x.told(1), 2);
        Check.ward(x, "near 7;open 1 s=0;near 3;shut 1 s=0");
        check.due("the last one's", x.told(1), 3);
        Check.ward(x, "near 3;near 00");
        check.due("0", x.told(1), 0);
        Check.ward(x, "open 1 s=0");
        check.due("a ward without", x.told(1), 2);
        Check.ward(x, "near 99");
        check.due("99", x.told(1), 99);
        Check.ward(x, "near 1;near");
        check.due("a fault behind a near", x.told(1), 99);
        check.terms("without one there are no CLAUSES");
        check.due("no ward", shown(0, 0, "", 1023), 1023);
        check.due("no ward, 0", shown(0, 0, "", 0), 0);
    }

    private static void blind() {
        check.terms("open: SLAT n modulo 10 is open; shut: it is shut");
        for (int n = 0; n < 100; n++) {
            check.due("open " + n, shown(0, 0, "open " + n + " s=0", 0), 1 << (n % 10));
            check.due("shut " + n, shown(0, 0, "shut " + n + " s=0", 1023), 1023 - (1 << (n % 10)));
        }
        check.due("what is open stays", shown(0, 0, "open 9 s=0", 512), 512);
        check.due("what is shut stays", shown(0, 0, "shut 9 s=0", 511), 511);
        check.terms("all CLAUSES with E, in order, whose E holds of that SIGN (as it came) do it");
        check.due("open, shut", shown(0, 0, "open 0 s=0;shut 0 s=0", 0), 0);
        check.due("shut, open", shown(0, 0, "shut 0 s=0;open 0 s=0", 0), 1);
        check.due("as it came: o", shown(0, 0, "open 0 o=0;open 1 o=0;open 2 o=1;open 3 o=2", 0), 3);
        check.due("none holds", shown(0, 0, "open 0 s=1;shut 1 k=1;turn 3 v=1", 1022), 1022);
        check.due("a near between", shown(0, 0, "open 0 s=0;near 5;open 2 s=0;near 6;open 4 s=1", 0), 5);
    }

    private static void turns() {
        check.terms("turn: all SLATS come n places on (behind 9 comes 0)");
        for (int n = 0; n < 100; n++) {
            check.due("turn " + n + " of slat 0", shown(0, 0, "turn " + n + " s=0", 1), 1 << (n % 10));
            check.due("turn " + n + " of slat 9", shown(0, 0, "turn " + n + " s=0", 512), 1 << ((n + 9) % 10));
        }
        check.due("all open", shown(0, 0, "turn 3 s=0", 1023), 1023);
        check.due("all shut", shown(0, 0, "turn 3 s=0", 0), 0);
        check.due("two turns", shown(0, 0, "turn 9 s=0;turn 99 s=0", 1), 256);
    }

    private static void kinds() {
        for (int s = 0; s < 10; s++) {
            int sign = 1 << s;
            check.terms("SENDER: the BLIND.");
            check.due("slat " + s, shown(0, 9, "", sign), sign);
            check.terms("TILTED: the BLIND, all SLATS one place on.");
            check.due("slat " + s, shown(1, 9, "", sign), 1 << ((s + 1) % 10));
            check.terms("HALF: the BLIND, SLATS of odd numbers shut.");
            check.due("slat " + s, shown(2, 9, "", sign), s % 2 == 0 ? sign : 0);
            check.terms("NURSE: the BLIND, SLAT v the other way.");
            check.due("slat " + s + " shut", shown(3, s, "", 0), sign);
            check.due("slat " + s + " open", shown(3, s, "", 1023), 1023 - sign);
            check.terms("SISTER: as TILTED, the other way round (SLAT s for 9 less s).");
            check.due("slat " + s, shown(4, 9, "", sign), 1 << (9 - (s + 1) % 10));
            check.terms("WIND: as HALF, if HOUR is even; else the BLIND.");
            SignalBlind x = new SignalBlind();
            x.sender(5, 9);
            for (int hour = 0; hour < 5; hour++) {
                check.due("slat " + s + " at " + hour, x.shows(0, sign), hour % 2 == 1 || s % 2 == 0 ? sign : 0);
                x.pass(1);
            }
            check.terms("TOLD: as NURSE");
            check.due("slat " + s, shown(6, s, "", 0), sign);
            check.due("slat " + s + " of all", shown(6, s, "", 1023), 1023 - sign);
        }
        check.terms("SENDER: the BLIND.");
        int[] all = {1023, 1023, 341, 1022, 1023, 341, 1022};
        int[] none = {0, 0, 0, 1, 0, 0, 1};
        for (int kind = 0; kind < 7; kind++) {
            check.due("KIND " + kind + ", all open", shown(kind, 0, "", 1023), all[kind]);
            check.due("KIND " + kind + ", none open", shown(kind, 0, "", 0), none[kind]);
        }
        check.due("of the blind, not of the sign", shown(1, 0, "open 9 s=0", 0), 1);
        check.due("of the blind: HALF", shown(2, 0, "open 1 s=0", 0), 0);
        check.due("of the blind: NURSE", shown(3, 4, "open 4 s=0", 0), 0);
        check.due("of the blind: SISTER", shown(4, 0, "open 9 s=0", 0), 512);
    }

    private static void rowOfATold() {
        check.terms("SLATS 0 .. 3 the other way by its ROW (four numbers 0 .. 9; 0 at first; bits) at HOUR modulo 4");
        for (int n = 0; n < 10; n++) {
            SignalBlind x = new SignalBlind();
            x.sender(6, 9);
            x.sender(6, 9);
            check.due("0 at first", x.shows(0, 0), 512);
            for (int part = 0; part < 4; part++) {
                x.row(0, part, (n + part) % 10);
            }
            for (int hour = 0; hour < 9; hour++) {
                check.due("hour " + hour + " by " + n, x.shows(0, 0), 512 + (n + hour % 4) % 10);
                check.due("hour " + hour + " of all by " + n, x.shows(0, 1023), 511 - (n + hour % 4) % 10);
                check.due("the other one's is its own", x.shows(1, 0), 512);
                x.pass(1);
            }
        }
        SignalBlind x = new SignalBlind();
        x.sender(6, 0);
        x.row(0, 3, 9);
        for (int k = 0; k < 166; k++) {
            x.pass(60);
        }
        check.due("hour 9960", x.shows(0, 0), 1);
        x.pass(39);
        check.due("hour 9999: slat 0 twice", x.shows(0, 0), 8);
    }

    private static void read() {
        check.terms("READ of a SIGN: the WORD from which it is least APART (of several the first), if by NEAR at most (-5: none).");
        SignalBlind x = new SignalBlind();
        check.due("no words", x.meaning(0), NONE);
        x.word(0);
        x.word(3);
        x.word(3);
        check.due("the word", x.meaning(0), 0);
        check.due("of two alike the first", x.meaning(3), 1);
        check.due("between: the first", x.meaning(1), 0);
        check.due("a nearer one behind", x.meaning(7), 1);
        check.due("apart by NEAR", x.meaning(15), 1);
        check.due("apart by one more", x.meaning(31), NONE);
        int[] signs = {3, 7, 15, 31, 63, 127, 255, 511, 1023};
        for (int near = 0; near <= 11; near += 3) {
            for (int k = 0; k < signs.length; k++) {
                SignalBlind y = new SignalBlind();
                y.word(3);
                Check.ward(y, "near " + near);
                check.due("apart by " + k + ", near " + near, y.meaning(signs[k]), k <= near ? 0 : NONE);
            }
        }
        SignalBlind z = new SignalBlind();
        z.word(0);
        Check.ward(z, "near 9");
        check.due("apart by 10, near 9", z.meaning(1023), NONE);
        Check.ward(z, "near 10");
        check.due("apart by 10, near 10", z.meaning(1023), 0);
    }

    private static void through() {
        check.terms("A WORD COMES through a SENDER, if what that SHOWS for it is READ as it.");
        SignalBlind x = new SignalBlind();
        x.sender(0, 0);
        check.due("no words", x.of(0, 3), 0);
        for (int k = 0; k < 8; k++) {
            x.word(7);
        }
        check.due("of eight alike the first", x.of(0, 3), 1);
        for (int k = 0; k < 8; k++) {
            x.alter(k, 1 << k);
        }
        check.due("eight unlike", x.of(0, 3), 255);
        x.sender(1, 0);
        check.due("by a TILTED each is the next, and the last the first", x.of(1, 3), 0);
        SignalBlind y = new SignalBlind();
        y.sender(3, 9);
        y.word(7);
        check.due("read as it, not shown so", y.of(0, 3), 1);
        y.word(519);
        check.due("each read as the other", y.of(0, 3), 0);
        y.alter(1, 520);
        check.due("each read as itself", y.of(0, 3), 3);
        Check.ward(y, "near 0");
        check.due("near 0", y.of(0, 3), 0);
    }

    private static void said() {
        check.terms("A WORD is SAID by a SENDER: it is READ by how all is ahead of it; SENT is 1 more then.");
        SignalBlind x = new SignalBlind();
        x.word(0);
        x.word(1);
        x.sender(0, 0);
        x.sender(0, 0);
        Check.ward(x, "near 0;open 0 f=0;open 9 f=2");
        check.due("by SENT 0", x.say(0, 0), 1);
        check.due("SENT", x.of(0, 2), 1);
        check.due("by SENT 1", x.say(0, 0), 0);
        check.due("SENT", x.of(0, 2), 2);
        check.due("by SENT 2: none", x.say(0, 0), NONE);
        check.due("SENT all the same", x.of(0, 2), 3);
        check.due("the other's is its own", x.of(1, 2), 0);
        check.terms("An HOUR goes: HOUR is 1 more.");
        check.due("by saying none goes", x.told(0), 0);
        check.due("pass(1)", x.pass(1), 1);
    }
}
