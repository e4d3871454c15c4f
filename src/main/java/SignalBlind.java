/** Words signalled with a blind of ten slats: see README.md for its use, the document for what each call promises. */
public final class SignalBlind {
    public static final int NONE = -1, BAD = -2, STATE = -3, FULL = -4;
    public static final long NO = Long.MIN_VALUE;

    private static final int NO_ONE = -5;
    private static final int NOTHING = -11, CAST = -12, PLACE = -13, SIZE = -14;
    private static final int SLATS = 10, SIGNS = 1024, ALL_OPEN = SIGNS - 1, EVEN_SLATS = 341, BITS = 64;
    private static final int SENDERS = 5, KINDS = 7, DIGITS = 10, PARTS = 4;
    private static final int WARDS = 6, TAPES = 6;
    private static final int HOURS_A_DAY = 24, LAST_HOUR = 9999, MOST_HOURS = 60, MOST_SENT = 9999;
    private static final int AN_HOUR = 5;
    private static final int ORDERS = 120;
    private static final int KEPT = 20;
    private static final int NEAR_WITHOUT = 2;

    private final Scene now = new Scene();
    private final Scene image = new Scene();
    private boolean imageTaken = false;
    private final Row text = new Row(Ward.BYTES);
    private Ward spare = new Ward();
    private int wards = 0;
    private final Tape[] tapes = new Tape[TAPES];
    // One sign of writing for each body that began, its number being the body's.
    private final StringBuilder trace = new StringBuilder();
    private final int[] facts = new int[Ward.FACTS];
    private final long[] marks = new long[SIGNS / BITS];
    private final int[] order = new int[SENDERS];
    private final int[] bestOrder = new int[SENDERS];

    public SignalBlind() {
        for (int k = 0; k < TAPES; k++) {
            tapes[k] = new Tape();
        }
    }

    // ---- words, senders, wards

    public int word(int sign) {
        if (!isSign(sign)) {
            return BAD;
        }
        if (now.words.isFull()) {
            return FULL;
        }
        return now.words.add(sign) - 1;
    }

    public int alter(int word, int sign) {
        if (!isWord(word)) {
            return NONE;
        }
        if (!isSign(sign)) {
            return BAD;
        }
        int before = now.words.get(word);
        now.words.set(word, sign);
        return before;
    }

    public int sender(int kind, int v) {
        if (kind < 0 || kind >= KINDS) {
            return NONE;
        }
        if (!isDigit(v)) {
            return BAD;
        }
        if (now.senderCount >= SENDERS) {
            return FULL;
        }
        return now.join(newSender(now.senderCount, kind, v));
    }

    public int of(int sender, int what) {
        if (!isSender(sender)) {
            return NONE;
        }
        switch (what) {
            case 0:
                return now.senders[sender].kind;
            case 1:
                return now.senders[sender].v;
            case 2:
                return now.sent[sender];
            case 3:
                return wordsThrough(sender);
            case 4:
                return unlikeSigns(sender);
            default:
                return NONE;
        }
    }

    public int shows(int sender, int sign) {
        if (!isSender(sender)) {
            return NONE;
        }
        return isSign(sign) ? shownNow(sender, sign) : BAD;
    }

    public int meaning(int sign) {
        return isSign(sign) ? readAs(sign) : BAD;
    }

    public int say(int sender, int word) {
        if (!isSender(sender) || !isWord(word)) {
            return NONE;
        }
        if (now.sent[sender] >= MOST_SENT) {
            return STATE;
        }
        int understood = readAs(shownNow(sender, now.words.get(word)));
        now.sent[sender]++;
        return understood;
    }

    public int row(int sender, int part, int n) {
        if (!isSender(sender) || part < 0 || part >= PARTS) {
            return NONE;
        }
        if (!isDigit(n)) {
            return BAD;
        }
        if (!(now.senders[sender] instanceof Told)) {
            return STATE;
        }
        int place = sender * PARTS + part;
        int before = now.rows[place];
        now.rows[place] = n;
        return before;
    }

    public int feed(int sign) {
        if (sign < 0 || sign > 127) {
            return BAD;
        }
        return text.isFull() ? FULL : text.add(sign);
    }

    public int ward() {
        if (wards >= WARDS) {
            return FULL;
        }
        int fault = spare.parse(text);
        text.clear();
        if (fault >= 0) {
            return -10 - fault;
        }
        now.ward = spare;
        spare = new Ward();
        wards++;
        return wards - 1;
    }

    public int told(int what) {
        switch (what) {
            case 0:
                return now.hour;
            case 1:
                return near();
            case 2:
            case 3:
                return closestWords(what == 3);
            case 4:
            case 5:
                return newSign(what == 5);
            default:
                return what >= 10 && isWord(what - 10) ? now.words.get(what - 10) : NONE;
        }
    }

    public int pass(int n) {
        if (n < 0 || n > MOST_HOURS) {
            return BAD;
        }
        if (now.hour + n > LAST_HOUR) {
            return STATE;
        }
        now.hour += n;
        return now.hour;
    }

    // ---- what is seen, what is meant

    public int saying(int sender, int word, int what) {
        if (!isSender(sender) || !isWord(word) || !isPart(what)) {
            return NONE;
        }
        int wanted = now.words.get(word);
        int first = NO_ONE;
        int many = 0;
        for (int sign = 0; sign < SIGNS; sign++) {
            if (shownNow(sender, sign) == wanted) {
                first = many == 0 ? sign : first;
                many++;
            }
        }
        return what == 0 ? first : many;
    }

    public int hours(int sender, int word) {
        if (!isSender(sender) || !isWord(word)) {
            return NONE;
        }
        int bits = 0;
        for (int h = 0; h < HOURS_A_DAY; h++) {
            if (comes(sender, word, now.hour + h)) {
                bits |= 1 << h;
            }
        }
        return bits;
    }

    public int senders(int word, int sign) {
        if (!isWord(word)) {
            return NONE;
        }
        if (!isSign(sign)) {
            return BAD;
        }
        int bits = 0;
        for (int s = 0; s < now.senderCount; s++) {
            if (shownNow(s, now.words.get(word)) == sign) {
                bits |= 1 << s;
            }
        }
        return bits;
    }

    public int meant(int sender, int sign) {
        if (!isSender(sender)) {
            return NONE;
        }
        if (!isSign(sign)) {
            return BAD;
        }
        int bits = 0;
        for (int w = 0; w < now.words.count; w++) {
            if (shownNow(sender, now.words.get(w)) == sign) {
                bits |= 1 << w;
            }
        }
        return bits;
    }

    public int passed(int word, int k) {
        if (!isWord(word) || k < -1 || k >= SENDERS) {
            return NONE;
        }
        if (k >= now.senderCount) {
            return NO_ONE;
        }
        int least = leastPassed(now.words.get(word));
        return k < 0 ? least : bestOrder[k];
    }

    // ---- seen, odds

    public int see(int word, int sign) {
        return addPair(now.seen, word, sign);
    }

    public int can(int sender, int what) {
        if (!isSender(sender) || !isPart(what)) {
            return NONE;
        }
        int least = NO_ONE;
        int many = 0;
        for (int v = 0; v < DIGITS; v++) {
            if (fitsSeen(sender, v, now.hour)) {
                least = many == 0 ? v : least;
                many++;
            }
        }
        return what == 0 ? many : least;
    }

    public int when(int sender, int what) {
        if (!isSender(sender) || !isPart(what)) {
            return NONE;
        }
        int first = NO_ONE;
        int many = 0;
        for (int h = 0; h < HOURS_A_DAY; h++) {
            if (fitsSeen(sender, now.senders[sender].v, now.hour + h)) {
                first = many == 0 ? h : first;
                many++;
            }
        }
        return what == 0 ? many : first;
    }

    public long odds(int sender, int word, int part) {
        if (!isSender(sender) || !isWord(word) || !isPart(part)) {
            return NO;
        }
        int shown = shownNow(sender, now.words.get(word));
        int right = 0;
        for (int slat = 0; slat < SLATS; slat++) {
            if (readAs(shown ^ (1 << slat)) == word) {
                right++;
            }
        }
        return lowest(right, SLATS, part);
    }

    public long mean(int part) {
        if (!isPart(part) || now.words.count == 0) {
            return NO;
        }
        int open = 0;
        for (int w = 0; w < now.words.count; w++) {
            open += Integer.bitCount(now.words.get(w));
        }
        return lowest(open, now.words.count, part);
    }

    // ---- relays, books

    public int relay(int sender) {
        if (sender == -1) {
            now.relay.clear();
            return 0;
        }
        if (sender != AN_HOUR && !isSender(sender)) {
            return NONE;
        }
        return now.relay.isFull() ? FULL : now.relay.add(sender);
    }

    public int ends(int word, int what) {
        if (!isWord(word) || !isPart(what)) {
            return NONE;
        }
        int sign = now.words.get(word);
        int hour = now.hour;
        for (int k = 0; k < now.relay.count; k++) {
            int sender = now.relay.get(k);
            if (sender == AN_HOUR) {
                hour++;
            } else if (isSender(sender)) {
                sign = shown(sender, now.senders[sender].v, hour, sign);
            }
        }
        return what == 0 ? sign : readAs(sign);
    }

    public int book(int word, int sign) {
        return addPair(now.book, word, sign);
    }

    public int looked() {
        for (int k = 0; k < now.book.count; k++) {
            int pair = now.book.get(k);
            if (now.words.get(pair / SIGNS) != pair % SIGNS) {
                return k;
            }
        }
        return NO_ONE;
    }

    // ---- judging, the image, acts, tapes

    public int judge(int tape, int i) {
        if (!isTape(tape)) {
            return NONE;
        }
        Tape row = tapes[tape];
        if (row.sort != Tape.EMPTY && row.sort != Tape.SHORTS) {
            return CAST;
        }
        for (int w = 0; w < now.words.count; w++) {
            if (!row.has(i) || !row.has(i + w)) {
                return 100 + w;
            }
            if (row.items[i + w] != now.words.get(w)) {
                return w;
            }
        }
        return NO_ONE;
    }

    public int image() {
        image.become(now);
        imageTaken = true;
        return now.senderCount;
    }

    public int undo() {
        if (!imageTaken) {
            return STATE;
        }
        now.become(image);
        return now.senderCount;
    }

    public int act(int sender, int act, int x) {
        trace.setLength(0);
        if (!isSender(sender)) {
            return 0;
        }
        Sender one = now.senders[sender];
        switch (act) {
            case 0:
                return one.tilts(x, trace);
            case 1:
                return one.sends(x, trace);
            case 2:
                return one.tells(x, trace);
            default:
                return 0;
        }
    }

    public int trace(int i) {
        return i >= 0 && i < KEPT && i < trace.length() ? trace.charAt(i) : NONE;
    }

    public int taken(int sender, int k) {
        if (k < 0 || k >= KINDS) {
            return BAD;
        }
        if (!isSender(sender)) {
            return NOTHING;
        }
        Sender one = now.senders[sender];
        return isOfKind(one, k) ? one.kind : CAST;
    }

    public int count(int what) {
        switch (what) {
            case 0:
                return now.senderCount;
            case 1:
                return now.words.count;
            case 2:
                return wards;
            case 3:
                return now.seen.count;
            case 4:
                return now.relay.count;
            case 5:
                return now.book.count;
            case 6:
                return text.count;
            case 7:
                return trace.length();
            default:
                return BAD;
        }
    }

    public int tape(int tape, int sort, int n) {
        if (!isTape(tape)) {
            return NONE;
        }
        if (sort < Tape.EMPTY || sort > Tape.BOOLEANS) {
            return BAD;
        }
        if (sort == Tape.EMPTY) {
            tapes[tape].blank(Tape.EMPTY, 0);
            return 1;
        }
        if (n > Tape.MOST) {
            return BAD;
        }
        if (n < 0) {
            return SIZE;
        }
        tapes[tape].blank(sort, n);
        return 1;
    }

    public int item(int tape, int i, long v) {
        if (!isTape(tape)) {
            return NONE;
        }
        Tape row = tapes[tape];
        if (row.sort == Tape.EMPTY) {
            return NOTHING;
        }
        if (!row.has(i)) {
            return PLACE;
        }
        row.items[i] = Tape.narrowed(row.sort, v);
        return 1;
    }

    public long read(int tape, int i) {
        return isTape(tape) && tapes[tape].has(i) ? tapes[tape].items[i] : NO;
    }

    public int shift(int tape, int i, int other, int j, int n) {
        if (!isTape(tape) || !isTape(other)) {
            return NONE;
        }
        Tape from = tapes[tape];
        Tape to = tapes[other];
        if (from.sort == Tape.EMPTY || to.sort == Tape.EMPTY) {
            return NOTHING;
        }
        if (from.sort != to.sort) {
            return CAST;
        }
        if (!from.hasSpan(i, n) || !to.hasSpan(j, n)) {
            return PLACE;
        }
        System.arraycopy(from.items, i, to.items, j, n);
        return n;
    }

    // ---- what numbers there are

    private static boolean isSign(int sign) {
        return sign >= 0 && sign < SIGNS;
    }

    private static boolean isDigit(int n) {
        return n >= 0 && n < DIGITS;
    }

    private static boolean isPart(int what) {
        return what == 0 || what == 1;
    }

    private static boolean isTape(int tape) {
        return tape >= 0 && tape < TAPES;
    }

    private boolean isWord(int word) {
        return word >= 0 && word < now.words.count;
    }

    private boolean isSender(int sender) {
        return sender >= 0 && sender < now.senderCount && now.senders[sender] != null;
    }

    // ---- signs

    private static int apart(int sign, int other) {
        return Integer.bitCount(sign ^ other);
    }

    private static int turned(int sign, int places) {
        int n = places % SLATS;
        return ((sign << n) | (sign >> (SLATS - n))) & ALL_OPEN;
    }

    private static int mirrored(int sign) {
        int out = 0;
        for (int slat = 0; slat < SLATS; slat++) {
            if ((sign & (1 << slat)) != 0) {
                out |= 1 << (SLATS - 1 - slat);
            }
        }
        return out;
    }

    // ---- showing and reading

    private int shownNow(int sender, int sign) {
        return shown(sender, now.senders[sender].v, now.hour, sign);
    }

    /** What a sender there is shows, were v its v and hour the hour. */
    private int shown(int sender, int v, int hour, int sign) {
        Sender one = now.senders[sender];
        int blind = sign;
        if (now.ward != null) {
            facts[0] = sender;
            facts[1] = one.kind;
            facts[2] = v;
            facts[3] = Integer.bitCount(sign);
            facts[4] = now.sent[sender] % 10;
            facts[5] = hour % HOURS_A_DAY;
            blind = now.ward.done(sign, facts);
        }
        return one.showing(blind, v, hour, now.rows[sender * PARTS + hour % PARTS]);
    }

    private int near() {
        return now.ward == null ? NEAR_WITHOUT : now.ward.near;
    }

    private int readAs(int sign) {
        int best = NO_ONE;
        int least = near() + 1;
        for (int w = 0; w < now.words.count; w++) {
            int far = apart(sign, now.words.get(w));
            if (far < least) {
                least = far;
                best = w;
            }
        }
        return best;
    }

    private boolean comes(int sender, int word, int hour) {
        return readAs(shown(sender, now.senders[sender].v, hour, now.words.get(word))) == word;
    }

    private int wordsThrough(int sender) {
        int bits = 0;
        for (int w = 0; w < now.words.count; w++) {
            if (comes(sender, w, now.hour)) {
                bits |= 1 << w;
            }
        }
        return bits;
    }

    private int unlikeSigns(int sender) {
        for (int k = 0; k < marks.length; k++) {
            marks[k] = 0;
        }
        for (int sign = 0; sign < SIGNS; sign++) {
            int shown = shownNow(sender, sign);
            marks[shown / BITS] |= 1L << (shown % BITS);
        }
        int many = 0;
        for (int k = 0; k < marks.length; k++) {
            many += Long.bitCount(marks[k]);
        }
        return many;
    }

    // ---- how far apart

    private int closestWords(boolean which) {
        int least = SLATS + 1;
        int pair = NO_ONE;
        for (int a = 0; a < now.words.count; a++) {
            for (int b = a + 1; b < now.words.count; b++) {
                int far = apart(now.words.get(a), now.words.get(b));
                if (far < least) {
                    least = far;
                    pair = 10 * a + b;
                }
            }
        }
        return which || pair == NO_ONE ? pair : least;
    }

    private int newSign(boolean howMuch) {
        if (now.words.count == 0) {
            return howMuch ? NO_ONE : 0;
        }
        int most = -1;
        int best = 0;
        for (int sign = 0; sign < SIGNS; sign++) {
            int far = leastApart(sign);
            if (far > most) {
                most = far;
                best = sign;
            }
        }
        return howMuch ? most : best;
    }

    private int leastApart(int sign) {
        int least = SLATS + 1;
        for (int w = 0; w < now.words.count; w++) {
            least = Math.min(least, apart(sign, now.words.get(w)));
        }
        return least;
    }

    // ---- handing on through all senders

    /** How far a sign comes back at least; the order by which it does so is in bestOrder then. */
    private int leastPassed(int sign) {
        for (int k = 0; k < SENDERS; k++) {
            order[k] = k;
        }
        int least = SLATS + 1;
        boolean more = true;
        for (int turn = 0; turn < ORDERS && more; turn++) {
            int far = apart(sign, handedOn(sign));
            if (far < least) {
                least = far;
                System.arraycopy(order, 0, bestOrder, 0, SENDERS);
            }
            more = nextOrder(now.senderCount);
        }
        return least;
    }

    private int handedOn(int sign) {
        int out = sign;
        for (int k = 0; k < now.senderCount; k++) {
            out = shownNow(order[k], out);
        }
        return out;
    }

    /** Makes of the first n numbers of the order the next row of these numbers, if there is one. */
    private boolean nextOrder(int n) {
        int k = n - 2;
        while (k >= 0 && order[k] > order[k + 1]) {
            k--;
        }
        if (k < 0) {
            return false;
        }
        int j = n - 1;
        while (j > k && order[j] < order[k]) {
            j--;
        }
        swapInOrder(k, j);
        int last = n - 1;
        for (int first = k + 1; first < last; first++) {
            swapInOrder(first, last);
            last--;
        }
        return true;
    }

    private void swapInOrder(int a, int b) {
        int kept = order[a];
        order[a] = order[b];
        order[b] = kept;
    }

    // ---- rows told by hand

    /** A word and its sign come to a row as one number; word -1 empties it. */
    private int addPair(Row row, int word, int sign) {
        if (word == -1) {
            row.clear();
            return 0;
        }
        if (!isWord(word)) {
            return NONE;
        }
        if (!isSign(sign)) {
            return BAD;
        }
        return row.isFull() ? FULL : row.add(word * SIGNS + sign);
    }

    private boolean fitsSeen(int sender, int v, int hour) {
        for (int k = 0; k < now.seen.count; k++) {
            int pair = now.seen.get(k);
            if (shown(sender, v, hour, now.words.get(pair / SIGNS)) != pair % SIGNS) {
                return false;
            }
        }
        return true;
    }

    /** One part of a fraction in lowest terms; below is above 0. */
    private static long lowest(int above, int below, int part) {
        int common = 1;
        for (int d = 2; d <= below; d++) {
            if (above % d == 0 && below % d == 0) {
                common = d;
            }
        }
        return (part == 0 ? above : below) / common;
    }

    // ---- kinds

    private static Sender newSender(int number, int kind, int v) {
        switch (kind) {
            case 1:
                return new Tilted(number, kind, v);
            case 2:
                return new Half(number, kind, v);
            case 3:
                return new Nurse(number, kind, v);
            case 4:
                return new Sister(number, kind, v);
            case 5:
                return new Wind(number, kind, v);
            case 6:
                return new Told(number, kind, v);
            default:
                return new Sender(number, 0, v);
        }
    }

    private static boolean isOfKind(Sender one, int kind) {
        switch (kind) {
            case 0:
                return true;
            case 1:
                return one instanceof Tilted;
            case 2:
                return one instanceof Half;
            case 3:
                return one instanceof Nurse;
            case 4:
                return one instanceof Sister;
            case 5:
                return one instanceof Wind;
            case 6:
                return one instanceof Told;
            default:
                return false;
        }
    }

    /** What a sender is made as and stays; what changes of it stands in the scene, so that an image can keep it. */
    private static class Sender {
        final int number;
        final int kind;
        final int v;

        Sender(int number, int kind, int v) {
            this.number = number;
            this.kind = kind;
            this.v = v;
        }

        /** What it shows when the blind is so, were byV its v; told is its row's number for the hour. */
        int showing(int blind, int byV, int hour, int told) {
            return blind;
        }

        int tilts(int x, StringBuilder trace) {
            trace.append((char) 10);
            return x + number;
        }

        int sends(int x, StringBuilder trace) {
            trace.append((char) 11);
            return tilts(x, trace) - v;
        }

        int tells(int x, StringBuilder trace) {
            trace.append((char) 12);
            return sends(x, trace) * 2;
        }
    }

    private static class Tilted extends Sender {
        Tilted(int number, int kind, int v) {
            super(number, kind, v);
        }

        int showing(int blind, int byV, int hour, int told) {
            return turned(blind, 1);
        }

        int sends(int x, StringBuilder trace) {
            trace.append((char) 20);
            return super.sends(x, trace) ^ 6;
        }
    }

    private static class Half extends Sender {
        Half(int number, int kind, int v) {
            super(number, kind, v);
        }

        int showing(int blind, int byV, int hour, int told) {
            return blind & EVEN_SLATS;
        }

        int tilts(int x, StringBuilder trace) {
            trace.append((char) 30);
            return super.tilts(x * 3, trace);
        }
    }

    private static class Nurse extends Sender {
        Nurse(int number, int kind, int v) {
            super(number, kind, v);
        }

        int showing(int blind, int byV, int hour, int told) {
            return blind ^ (1 << byV);
        }

        int tells(int x, StringBuilder trace) {
            trace.append((char) 40);
            return super.tells(x, trace) + sends(1, trace);
        }
    }

    private static final class Sister extends Tilted {
        Sister(int number, int kind, int v) {
            super(number, kind, v);
        }

        int showing(int blind, int byV, int hour, int told) {
            return mirrored(super.showing(blind, byV, hour, told));
        }

        int tilts(int x, StringBuilder trace) {
            trace.append((char) 50);
            return -super.tilts(x, trace);
        }

        int sends(int x, StringBuilder trace) {
            trace.append((char) 51);
            return super.sends(x + 1, trace);
        }
    }

    private static final class Wind extends Half {
        Wind(int number, int kind, int v) {
            super(number, kind, v);
        }

        int showing(int blind, int byV, int hour, int told) {
            return hour % 2 == 0 ? super.showing(blind, byV, hour, told) : blind;
        }

        int tells(int x, StringBuilder trace) {
            trace.append((char) 60);
            return super.tells(x - number, trace);
        }
    }

    private static final class Told extends Nurse {
        Told(int number, int kind, int v) {
            super(number, kind, v);
        }

        int showing(int blind, int byV, int hour, int told) {
            return super.showing(blind, byV, hour, told) ^ told;
        }

        int sends(int x, StringBuilder trace) {
            trace.append((char) 70);
            return super.sends(x, trace) + super.tilts(2, trace);
        }

        int tilts(int x, StringBuilder trace) {
            trace.append((char) 71);
            return super.tilts(x, trace) ^ v;
        }
    }

    /** All that an image keeps. */
    private static final class Scene {
        final Row words = new Row(8);
        final Sender[] senders = new Sender[SENDERS];
        int senderCount = 0;
        // Of senders that are not there these two are 0, as a new sender's have to be: an image's are copied whole.
        final int[] sent = new int[SENDERS];
        final int[] rows = new int[SENDERS * PARTS];
        int hour = 0;
        final Row seen = new Row(5);
        final Row relay = new Row(8);
        final Row book = new Row(8);
        Ward ward = null;

        /** A sender comes, if there is room: its number. */
        int join(Sender one) {
            int number = senderCount;
            if (number < SENDERS) {
                senders[number] = one;
                senderCount++;
            }
            return number;
        }

        void become(Scene other) {
            words.become(other.words);
            seen.become(other.seen);
            relay.become(other.relay);
            book.become(other.book);
            for (int k = 0; k < SENDERS; k++) {
                senders[k] = other.senders[k];
            }
            senderCount = other.senderCount;
            System.arraycopy(other.sent, 0, sent, 0, SENDERS);
            System.arraycopy(other.rows, 0, rows, 0, SENDERS * PARTS);
            hour = other.hour;
            ward = other.ward;
        }
    }

    /** A row of numbers that come one behind the other, up to a limit. */
    private static final class Row {
        final int[] items;
        int count = 0;

        Row(int limit) {
            items = new int[limit];
        }

        boolean isFull() {
            return count >= items.length;
        }

        int add(int item) {
            if (count < items.length) {
                items[count] = item;
                count++;
            }
            return count;
        }

        int get(int k) {
            return k >= 0 && k < count ? items[k] : 0;
        }

        void set(int k, int item) {
            if (k >= 0 && k < count) {
                items[k] = item;
            }
        }

        void clear() {
            count = 0;
        }

        /** The other row has the same limit. */
        void become(Row other) {
            count = 0;
            for (int k = 0; k < other.count; k++) {
                add(other.items[k]);
            }
        }
    }

    /** A row of items of one sort, or nothing. Items of all sorts are held as longs, narrowed as they come. */
    private static final class Tape {
        static final int EMPTY = -1, BYTES = 0, SHORTS = 1, INTS = 2, BOOLEANS = 4;
        static final int MOST = 60;

        final long[] items = new long[MOST];
        int sort = EMPTY;
        int length = 0;

        void blank(int newSort, int n) {
            sort = newSort;
            length = n;
            for (int k = 0; k < MOST; k++) {
                items[k] = 0;
            }
        }

        boolean has(int i) {
            return i >= 0 && i < length;
        }

        boolean hasSpan(int i, int n) {
            return n >= 0 && n <= length && i >= 0 && i <= length - n;
        }

        static long narrowed(int sort, long v) {
            switch (sort) {
                case BYTES:
                    return (byte) v;
                case SHORTS:
                    return (short) v;
                case INTS:
                    return (int) v;
                case BOOLEANS:
                    return v != 0 ? 1 : 0;
                default:
                    return v;
            }
        }
    }

    /** Clauses read from a text. Tests of a clause stand as steps, each operator behind what it joins. */
    private static final class Ward {
        static final int BYTES = 100, FACTS = 6;
        private static final int CLAUSES = 10, DEEPEST = 4;
        private static final int OPEN = 0, SHUT = 1, NEAR = 3;
        private static final int NOT = -1, AND = -2, OR = -3;
        private static final String VERB_STARTS = "ostn", VERBS = "openshutturnnear";
        private static final int VERB_LENGTH = 4;
        private static final String LETTERS = "skvofh", SIGNS_BETWEEN = "<=>", NUMERALS = "0123456789";

        final int[] verbs = new int[CLAUSES];
        final int[] numbers = new int[CLAUSES];
        final int[] ends = new int[CLAUSES];
        int clauses = 0;
        final int[] steps = new int[BYTES];
        int stepCount = 0;
        int near = NEAR_WITHOUT;
        private Row text = null;
        private int at = 0;

        /**
         * Reads a text: the place of its fault, or -1. No byte is passed before it is known to fit,
         * so the place where reading stops is the fault.
         */
        int parse(Row written) {
            text = written;
            at = 0;
            clauses = 0;
            stepCount = 0;
            near = NEAR_WITHOUT;
            boolean fits = clause();
            for (int k = 1; k < CLAUSES && fits && accept(';'); k++) {
                fits = clause();
            }
            return fits && at >= text.count ? -1 : at;
        }

        private boolean clause() {
            int verb = acceptOneOf(VERB_STARTS);
            if (verb < 0 || clauses >= CLAUSES) {
                return false;
            }
            for (int k = 1; k < VERB_LENGTH; k++) {
                if (!accept(VERBS.charAt(verb * VERB_LENGTH + k))) {
                    return false;
                }
            }
            int n = accept(' ') ? number() : -1;
            if (n < 0) {
                return false;
            }
            if (verb == NEAR) {
                near = n;
            } else if (!accept(' ') || !either(0)) {
                return false;
            }
            verbs[clauses] = verb;
            numbers[clauses] = n;
            ends[clauses] = stepCount;
            clauses++;
            return true;
        }

        private boolean either(int depth) {
            boolean fits = both(depth);
            for (int k = 0; k < BYTES && fits && accept('|'); k++) {
                fits = both(depth) && addStep(OR);
            }
            return fits;
        }

        private boolean both(int depth) {
            boolean fits = single(depth);
            for (int k = 0; k < BYTES && fits && accept('&'); k++) {
                fits = single(depth) && addStep(AND);
            }
            return fits;
        }

        private boolean single(int depth) {
            if (depth < DEEPEST && accept('!')) {
                return single(depth + 1) && addStep(NOT);
            }
            if (depth < DEEPEST && accept('(')) {
                return either(depth + 1) && accept(')');
            }
            int letter = acceptOneOf(LETTERS);
            int between = letter < 0 ? -1 : acceptOneOf(SIGNS_BETWEEN);
            int n = between < 0 ? -1 : number();
            return n >= 0 && addStep((letter * 3 + between) * 100 + n);
        }

        /** A number of one or two digits, or -1. */
        private int number() {
            int first = acceptOneOf(NUMERALS);
            int second = first < 0 ? -1 : acceptOneOf(NUMERALS);
            return second < 0 ? first : first * 10 + second;
        }

        private boolean accept(char wanted) {
            boolean fits = at < text.count && text.items[at] == wanted;
            if (fits) {
                at++;
            }
            return fits;
        }

        /** Which of some signs stands next, or -1. */
        private int acceptOneOf(String some) {
            int which = at < text.count ? some.indexOf((char) text.items[at]) : -1;
            if (which >= 0) {
                at++;
            }
            return which;
        }

        /** There is room, as each step has a byte of its own in the text. */
        private boolean addStep(int step) {
            boolean fits = stepCount < BYTES;
            if (fits) {
                steps[stepCount] = step;
                stepCount++;
            }
            return fits;
        }

        /** The blind for a sign; the facts are of that sign as it came. */
        int done(int sign, int[] facts) {
            int blind = sign;
            int from = 0;
            for (int k = 0; k < clauses; k++) {
                if (verbs[k] != NEAR && holds(from, ends[k], facts)) {
                    blind = moved(verbs[k], numbers[k], blind);
                }
                from = ends[k];
            }
            return blind;
        }

        private static int moved(int verb, int n, int blind) {
            int slat = 1 << (n % SLATS);
            if (verb == OPEN) {
                return blind | slat;
            }
            return verb == SHUT ? blind & ~slat : turned(blind, n);
        }

        /** What holds is kept as bits, the newest lowest: some ten stand open at once, as texts are no deeper. */
        private boolean holds(int from, int to, int[] facts) {
            int open = 0;
            for (int k = from; k < to; k++) {
                int step = steps[k];
                int newest = open & 1;
                if (step == NOT) {
                    open ^= 1;
                } else if (step == AND) {
                    open = (open >> 1) & (newest == 1 ? -1 : -2);
                } else if (step == OR) {
                    open = (open >> 1) | newest;
                } else {
                    open = (open << 1) | (isSo(step, facts) ? 1 : 0);
                }
            }
            return (open & 1) == 1;
        }

        private static boolean isSo(int step, int[] facts) {
            int letter = step / 300;
            if (letter < 0 || letter >= facts.length) {
                return false;
            }
            int fact = facts[letter];
            int n = step % 100;
            switch (step / 100 % 3) {
                case 0:
                    return fact < n;
                case 1:
                    return fact == n;
                default:
                    return fact > n;
            }
        }
    }
}
