import java.util.ArrayList;
import java.util.Arrays;
import java.util.List;
import java.util.TreeSet;
import java.util.regex.Matcher;
import java.util.regex.Pattern;

/**
 * The document once more, in another way and without care for cost: texts stay texts, faults are found by a
 * pattern that says whether more text could still fit, slats are signs of writing. Takes a call by its name.
 */
final class PlainBlind {
    private static final int[] ABOVE = {-1, 0, 0, 0, 1, 2, 3};
    private static final int[][] BODIES = {
        {10, 11, 12}, {0, 20, 0}, {30, 0, 0}, {0, 0, 40}, {50, 51, 0}, {0, 0, 60}, {71, 70, 0}};
    private static final Pattern WARD = wardPattern();

    private static final class Person implements Cloneable {
        int number, kind, v, sent;
        int[] row = new int[4];

        Person copy() {
            Person p = new Person();
            p.number = number;
            p.kind = kind;
            p.v = v;
            p.sent = sent;
            p.row = row.clone();
            return p;
        }
    }

    private static final class All {
        List<Integer> words = new ArrayList<>();
        List<Person> people = new ArrayList<>();
        int hour = 0;
        List<int[]> seen = new ArrayList<>();
        List<Integer> relay = new ArrayList<>();
        List<int[]> book = new ArrayList<>();
        String ward = null;

        All copy() {
            All a = new All();
            a.words.addAll(words);
            for (Person p : people) {
                a.people.add(p.copy());
            }
            a.hour = hour;
            a.seen.addAll(seen);
            a.relay.addAll(relay);
            a.book.addAll(book);
            a.ward = ward;
            return a;
        }
    }

    private All all = new All();
    private All image = null;
    private String text = "";
    private int wards = 0;
    private final List<Integer> trace = new ArrayList<>();
    private final Object[] tapes = new Object[6];

    private static Pattern wardPattern() {
        String test = "[skvofh][<=>][0-9][0-9]?";
        String factor = test;
        for (int depth = 4; depth > 0; depth--) {
            factor = "(?:" + test + "|!" + factor + "|\\(" + expression(factor) + "\\))";
        }
        String clause = "(?:(?:open|shut|turn) [0-9][0-9]? " + expression(factor) + "|near [0-9][0-9]?)";
        return Pattern.compile(clause + "(?:;" + clause + "){0,9}");
    }

    private static String expression(String factor) {
        String term = factor + "(?:&" + factor + ")*";
        return term + "(?:\\|" + term + ")*";
    }

    private static boolean whole(String s) {
        return WARD.matcher(s).matches();
    }

    private static boolean begins(String s) {
        Matcher m = WARD.matcher(s);
        return m.matches() || m.hitEnd();
    }

    static int fault(String s) {
        if (whole(s)) {
            return -1;
        }
        for (int k = 1; k <= s.length(); k++) {
            if (!begins(s.substring(0, k))) {
                return k - 1;
            }
        }
        return s.length();
    }

    // Slats as a text of ten signs, slat 0 first.
    private static String slats(int sign) {
        StringBuilder b = new StringBuilder();
        for (int k = 0; k < 10; k++) {
            b.append(sign % 2 == 1 ? 'o' : '-');
            sign /= 2;
        }
        return b.toString();
    }

    private static int bits(String slats) {
        int sign = 0;
        for (int k = 9; k >= 0; k--) {
            sign = 2 * sign + (slats.charAt(k) == 'o' ? 1 : 0);
        }
        return sign;
    }

    private static String put(String slats, int k, char c) {
        return slats.substring(0, k) + c + slats.substring(k + 1);
    }

    private static String other(String slats, int k) {
        return put(slats, k, slats.charAt(k) == 'o' ? '-' : 'o');
    }

    private static String on(String slats) {
        return slats.charAt(9) + slats.substring(0, 9);
    }

    private static int open(String slats) {
        return slats.replace("-", "").length();
    }

    private static int apart(int a, int b) {
        int far = 0;
        for (int k = 0; k < 10; k++) {
            far += slats(a).charAt(k) == slats(b).charAt(k) ? 0 : 1;
        }
        return far;
    }

    private static int topLevel(String e, char joint) {
        int depth = 0;
        for (int k = e.length() - 1; k >= 0; k--) {
            char c = e.charAt(k);
            depth += c == ')' ? 1 : c == '(' ? -1 : 0;
            if (depth == 0 && c == joint) {
                return k;
            }
        }
        return -1;
    }

    private static boolean holds(String e, int[] facts) {
        for (char joint : new char[] {'|', '&'}) {
            int k = topLevel(e, joint);
            if (k >= 0) {
                boolean left = holds(e.substring(0, k), facts);
                boolean right = holds(e.substring(k + 1), facts);
                return joint == '|' ? left || right : left && right;
            }
        }
        if (e.charAt(0) == '!') {
            return !holds(e.substring(1), facts);
        }
        if (e.charAt(0) == '(') {
            return holds(e.substring(1, e.length() - 1), facts);
        }
        int fact = facts["skvofh".indexOf(e.charAt(0))];
        int n = Integer.parseInt(e.substring(2));
        return e.charAt(1) == '<' ? fact < n : e.charAt(1) == '=' ? fact == n : fact > n;
    }

    private String blind(Person p, int v, int hour, int sign) {
        String out = slats(sign);
        if (all.ward == null) {
            return out;
        }
        int[] facts = {p.number, p.kind, v, open(slats(sign)), p.sent % 10, hour % 24};
        for (String clause : all.ward.split(";")) {
            String[] parts = clause.split(" ");
            int n = Integer.parseInt(parts[1]);
            if (parts.length < 3 || !holds(parts[2], facts)) {
                continue;
            }
            if (parts[0].equals("open")) {
                out = put(out, n % 10, 'o');
            } else if (parts[0].equals("shut")) {
                out = put(out, n % 10, '-');
            } else {
                for (int k = 0; k < n; k++) {
                    out = on(out);
                }
            }
        }
        return out;
    }

    private static String halved(String slats) {
        for (int k = 1; k < 10; k += 2) {
            slats = put(slats, k, '-');
        }
        return slats;
    }

    private int shows(Person p, int v, int hour, int sign) {
        String blind = blind(p, v, hour, sign);
        switch (p.kind) {
            case 1:
                return bits(on(blind));
            case 2:
                return bits(halved(blind));
            case 3:
                return bits(other(blind, v));
            case 4:
                return bits(new StringBuilder(on(blind)).reverse().toString());
            case 5:
                return bits(hour % 2 == 0 ? halved(blind) : blind);
            case 6:
                String out = other(blind, v);
                for (int k = 0; k < 4; k++) {
                    out = (p.row[hour % 4] >> k) % 2 == 1 ? other(out, k) : out;
                }
                return bits(out);
            default:
                return bits(blind);
        }
    }

    private int shows(int sender, int sign) {
        Person p = all.people.get(sender);
        return shows(p, p.v, all.hour, sign);
    }

    private int near() {
        int near = 2;
        if (all.ward != null) {
            for (String clause : all.ward.split(";")) {
                near = clause.startsWith("near") ? Integer.parseInt(clause.substring(5)) : near;
            }
        }
        return near;
    }

    private int readAs(int sign) {
        for (int far = 0; far <= near() && far <= 10; far++) {
            for (int w = 0; w < all.words.size(); w++) {
                if (apart(sign, all.words.get(w)) == far) {
                    return w;
                }
            }
        }
        return -5;
    }

    private boolean isWord(int w) {
        return 0 <= w && w < all.words.size();
    }

    private boolean isSender(int s) {
        return 0 <= s && s < all.people.size();
    }

    private static boolean isSign(int s) {
        return 0 <= s && s <= 1023;
    }

    private int body(int kind, int act) {
        for (int k = kind; k >= 0; k = ABOVE[k]) {
            if (BODIES[k][act] != 0) {
                return BODIES[k][act];
            }
        }
        return 0;
    }

    private int own(Person p, int act, int x) {
        return run(p, body(p.kind, act), x);
    }

    private int above(Person p, int kind, int act, int x) {
        return run(p, body(ABOVE[kind], act), x);
    }

    private int run(Person p, int body, int x) {
        trace.add(body);
        switch (body) {
            case 10:
                return x + p.number;
            case 11:
                return own(p, 0, x) - p.v;
            case 12:
                return own(p, 1, x) * 2;
            case 20:
                return above(p, 1, 1, x) ^ 6;
            case 30:
                return above(p, 2, 0, x * 3);
            case 40:
                int first = above(p, 3, 2, x);
                return first + own(p, 1, 1);
            case 50:
                return -above(p, 4, 0, x);
            case 51:
                return above(p, 4, 1, x + 1);
            case 60:
                return above(p, 5, 2, x - p.number);
            case 70:
                int sent = above(p, 6, 1, x);
                return sent + above(p, 6, 0, 2);
            default:
                return above(p, 6, 0, x) ^ p.v;
        }
    }

    long call(String name, long[] a) {
        int p = a.length > 0 ? (int) a[0] : 0;
        int q = a.length > 1 ? (int) a[1] : 0;
        int r = a.length > 2 ? (int) a[2] : 0;
        switch (name) {
            case "word":
                if (!isSign(p)) {
                    return -2;
                }
                if (all.words.size() == 8) {
                    return -4;
                }
                all.words.add(p);
                return all.words.size() - 1;
            case "alter":
                return !isWord(p) ? -1 : !isSign(q) ? -2 : all.words.set(p, q);
            case "sender":
                return sender(p, q);
            case "of":
                return of(p, q);
            case "shows":
                return !isSender(p) ? -1 : !isSign(q) ? -2 : shows(p, q);
            case "meaning":
                return isSign(p) ? readAs(p) : -2;
            case "say":
                if (!isSender(p) || !isWord(q)) {
                    return -1;
                }
                int read = readAs(shows(p, all.words.get(q)));
                all.people.get(p).sent++;
                return read;
            case "row":
                return row(p, q, r);
            case "feed":
                if (p < 0 || p > 127) {
                    return -2;
                }
                if (text.length() == 100) {
                    return -4;
                }
                text += (char) p;
                return text.length();
            case "ward":
                return ward();
            case "told":
                return told(p);
            case "pass":
                if (p < 0 || p > 60) {
                    return -2;
                }
                if (all.hour + p > 9999) {
                    return -3;
                }
                all.hour += p;
                return all.hour;
            default:
                return asked(name, p, q, r, a);
        }
    }

    private int sender(int kind, int v) {
        if (kind < 0 || kind > 6) {
            return -1;
        }
        if (v < 0 || v > 9) {
            return -2;
        }
        if (all.people.size() == 5) {
            return -4;
        }
        Person one = new Person();
        one.number = all.people.size();
        one.kind = kind;
        one.v = v;
        all.people.add(one);
        return one.number;
    }

    private int row(int s, int part, int n) {
        if (!isSender(s) || part < 0 || part > 3) {
            return -1;
        }
        if (n < 0 || n > 9) {
            return -2;
        }
        if (all.people.get(s).kind != 6) {
            return -3;
        }
        int was = all.people.get(s).row[part];
        all.people.get(s).row[part] = n;
        return was;
    }

    private int ward() {
        if (wards == 6) {
            return -4;
        }
        String given = text;
        text = "";
        int fault = fault(given);
        if (fault >= 0) {
            return -10 - fault;
        }
        all.ward = given;
        wards++;
        return wards - 1;
    }

    private int of(int s, int what) {
        if (!isSender(s)) {
            return -1;
        }
        Person one = all.people.get(s);
        switch (what) {
            case 0:
                return one.kind;
            case 1:
                return one.v;
            case 2:
                return one.sent;
            case 3:
                int through = 0;
                for (int w = 0; w < all.words.size(); w++) {
                    through += readAs(shows(s, all.words.get(w))) == w ? 1 << w : 0;
                }
                return through;
            case 4:
                TreeSet<Integer> shown = new TreeSet<>();
                for (int sign = 0; sign < 1024; sign++) {
                    shown.add(shows(s, sign));
                }
                return shown.size();
            default:
                return -1;
        }
    }

    private int told(int what) {
        if (what == 0) {
            return all.hour;
        }
        if (what == 1) {
            return near();
        }
        if (what == 2 || what == 3) {
            for (int far = 0; far <= 10; far++) {
                for (int pair = 0; pair < 78; pair++) {
                    int a = pair / 10;
                    int b = pair % 10;
                    if (a < b && isWord(b) && apart(all.words.get(a), all.words.get(b)) == far) {
                        return what == 2 ? far : pair;
                    }
                }
            }
            return -5;
        }
        if (what == 4 || what == 5) {
            return newest(what);
        }
        return what >= 10 && isWord(what - 10) ? all.words.get(what - 10) : -1;
    }

    private int newest(int what) {
        if (all.words.isEmpty()) {
            return what == 4 ? 0 : -5;
        }
        int[] least = new int[1024];
        for (int sign = 0; sign < 1024; sign++) {
            least[sign] = 99;
            for (int word : all.words) {
                least[sign] = Math.min(least[sign], apart(sign, word));
            }
        }
        int most = Arrays.stream(least).max().getAsInt();
        int sign = 0;
        while (least[sign] < most) {
            sign++;
        }
        return what == 4 ? sign : most;
    }

    private long asked(String name, int p, int q, int r, long[] a) {
        switch (name) {
            case "saying":
                if (!isSender(p) || !isWord(q) || r < 0 || r > 1) {
                    return -1;
                }
                List<Integer> signs = new ArrayList<>();
                for (int sign = 0; sign < 1024; sign++) {
                    if (shows(p, sign) == all.words.get(q)) {
                        signs.add(sign);
                    }
                }
                return r == 1 ? signs.size() : signs.isEmpty() ? -5 : signs.get(0);
            case "hours":
                return hours(p, q);
            case "senders":
                return !isWord(p) ? -1 : !isSign(q) ? -2 : senders(p, q);
            case "meant":
                return !isSender(p) ? -1 : !isSign(q) ? -2 : meant(p, q);
            case "passed":
                return passed(p, q);
            case "see":
                return told(all.seen, 5, p, q);
            case "can":
                return fit(p, q, true);
            case "when":
                return fit(p, q, false);
            case "odds":
                return odds(p, q, r);
            case "mean":
                int open = 0;
                for (int word : all.words) {
                    open += open(slats(word));
                }
                return p < 0 || p > 1 || all.words.isEmpty() ? Long.MIN_VALUE : lowest(open, all.words.size())[p];
            case "relay":
                if (p == -1) {
                    all.relay.clear();
                    return 0;
                }
                if (p != 5 && !isSender(p)) {
                    return -1;
                }
                if (all.relay.size() == 8) {
                    return -4;
                }
                all.relay.add(p);
                return all.relay.size();
            case "ends":
                return ends(p, q);
            case "book":
                return told(all.book, 8, p, q);
            case "looked":
                for (int[] line : all.book) {
                    if (all.words.get(line[0]) != line[1]) {
                        return all.book.indexOf(line);
                    }
                }
                return -5;
            default:
                return kept(name, p, q, r, a);
        }
    }

    private int hours(int s, int w) {
        if (!isSender(s) || !isWord(w)) {
            return -1;
        }
        All before = all;
        int out = 0;
        for (int h = 0; h < 24; h++) {
            all = before.copy();
            all.hour += h;
            out += readAs(shows(s, all.words.get(w))) == w ? 1 << h : 0;
        }
        all = before;
        return out;
    }

    private int senders(int w, int sign) {
        int out = 0;
        for (Person one : all.people) {
            out += shows(one.number, all.words.get(w)) == sign ? 1 << one.number : 0;
        }
        return out;
    }

    private int meant(int s, int sign) {
        int out = 0;
        for (int w = 0; w < all.words.size(); w++) {
            out += shows(s, all.words.get(w)) == sign ? 1 << w : 0;
        }
        return out;
    }

    private int passed(int w, int k) {
        if (!isWord(w) || k < -1 || k > 4) {
            return -1;
        }
        List<int[]> orders = new ArrayList<>();
        orders(new int[0], orders);
        int least = 99;
        int[] best = null;
        for (int[] order : orders) {
            int sign = all.words.get(w);
            for (int s : order) {
                sign = shows(s, sign);
            }
            if (apart(sign, all.words.get(w)) < least) {
                least = apart(sign, all.words.get(w));
                best = order;
            }
        }
        return k == -1 ? least : k < best.length ? best[k] : -5;
    }

    private void orders(int[] begun, List<int[]> orders) {
        if (begun.length == all.people.size()) {
            orders.add(begun);
        }
        for (int s = 0; s < all.people.size(); s++) {
            int next = s;
            if (Arrays.stream(begun).noneMatch(one -> one == next)) {
                int[] more = Arrays.copyOf(begun, begun.length + 1);
                more[begun.length] = s;
                orders(more, orders);
            }
        }
    }

    private int told(List<int[]> rows, int limit, int w, int sign) {
        if (w == -1) {
            rows.clear();
            return 0;
        }
        if (!isWord(w)) {
            return -1;
        }
        if (!isSign(sign)) {
            return -2;
        }
        if (rows.size() == limit) {
            return -4;
        }
        rows.add(new int[] {w, sign});
        return rows.size();
    }

    private int fit(int s, int what, boolean byV) {
        if (!isSender(s) || what < 0 || what > 1) {
            return -1;
        }
        Person one = all.people.get(s);
        List<Integer> fits = new ArrayList<>();
        for (int k = 0; k < (byV ? 10 : 24); k++) {
            boolean fit = true;
            for (int[] row : all.seen) {
                int word = all.words.get(row[0]);
                fit &= shows(one, byV ? k : one.v, byV ? all.hour : all.hour + k, word) == row[1];
            }
            if (fit) {
                fits.add(k);
            }
        }
        return what == 0 ? fits.size() : fits.isEmpty() ? -5 : fits.get(0);
    }

    private static long[] lowest(int above, int below) {
        for (int d = below; d > 1; d--) {
            if (above % d == 0 && below % d == 0) {
                return new long[] {above / d, below / d};
            }
        }
        return new long[] {above, below};
    }

    private long odds(int s, int w, int part) {
        if (!isSender(s) || !isWord(w) || part < 0 || part > 1) {
            return Long.MIN_VALUE;
        }
        int right = 0;
        for (int k = 0; k < 10; k++) {
            right += readAs(bits(other(slats(shows(s, all.words.get(w))), k))) == w ? 1 : 0;
        }
        return lowest(right, 10)[part];
    }

    private int ends(int w, int what) {
        if (!isWord(w) || what < 0 || what > 1) {
            return -1;
        }
        int sign = all.words.get(w);
        int hour = all.hour;
        for (int s : all.relay) {
            if (s == 5) {
                hour++;
            } else {
                sign = shows(all.people.get(s), all.people.get(s).v, hour, sign);
            }
        }
        return what == 0 ? sign : readAs(sign);
    }

    private long kept(String name, int p, int q, int r, long[] a) {
        switch (name) {
            case "judge":
                return judge(p, q);
            case "image":
                image = all.copy();
                return all.people.size();
            case "undo":
                if (image == null) {
                    return -3;
                }
                all = image.copy();
                return all.people.size();
            case "act":
                trace.clear();
                return isSender(p) && q >= 0 && q <= 2 ? own(all.people.get(p), q, r) : 0;
            case "trace":
                return p >= 0 && p < trace.size() && p < 20 ? trace.get(p) : -1;
            case "taken":
                if (q < 0 || q > 6) {
                    return -2;
                }
                if (!isSender(p)) {
                    return -11;
                }
                for (int k = all.people.get(p).kind; k >= 0; k = ABOVE[k]) {
                    if (k == q) {
                        return all.people.get(p).kind;
                    }
                }
                return -12;
            case "count":
                int[] counts = {all.people.size(), all.words.size(), wards, all.seen.size(), all.relay.size(),
                    all.book.size(), text.length(), trace.size()};
                return p >= 0 && p < 8 ? counts[p] : -2;
            case "tape":
                return tape(p, q, r);
            case "item":
                return item(p, q, a[2]);
            case "read":
                return p < 0 || p > 5 || tapes[p] == null || q < 0 || q >= length(p) ? Long.MIN_VALUE : get(p, q);
            default:
                return shift(a);
        }
    }

    private int length(int tape) {
        return java.lang.reflect.Array.getLength(tapes[tape]);
    }

    private long get(int tape, int i) {
        Object row = tapes[tape];
        return row instanceof boolean[] ? ((boolean[]) row)[i] ? 1 : 0 : java.lang.reflect.Array.getLong(row, i);
    }

    private int judge(int tape, int i) {
        if (tape < 0 || tape > 5) {
            return -1;
        }
        if (tapes[tape] != null && !(tapes[tape] instanceof short[])) {
            return -12;
        }
        short[] row = (short[]) tapes[tape];
        int w = 0;
        for (int word : all.words) {
            if (row == null || i < 0 || (long) i + w >= row.length) {
                return 100 + w;
            }
            if (row[i + w] != word) {
                return w;
            }
            w++;
        }
        return -5;
    }

    private int tape(int tape, int sort, int n) {
        if (tape < 0 || tape > 5) {
            return -1;
        }
        if (sort < -1 || sort > 4) {
            return -2;
        }
        if (sort == -1) {
            tapes[tape] = null;
            return 1;
        }
        if (n > 60 || n < 0) {
            return n > 60 ? -2 : -14;
        }
        Class<?>[] sorts = {byte.class, short.class, int.class, long.class, boolean.class};
        tapes[tape] = java.lang.reflect.Array.newInstance(sorts[sort], n);
        return 1;
    }

    private int item(int tape, int i, long v) {
        if (tape < 0 || tape > 5) {
            return -1;
        }
        if (tapes[tape] == null) {
            return -11;
        }
        if (i < 0 || i >= length(tape)) {
            return -13;
        }
        Object row = tapes[tape];
        if (row instanceof byte[]) {
            ((byte[]) row)[i] = (byte) v;
        } else if (row instanceof short[]) {
            ((short[]) row)[i] = (short) v;
        } else if (row instanceof int[]) {
            ((int[]) row)[i] = (int) v;
        } else if (row instanceof long[]) {
            ((long[]) row)[i] = v;
        } else {
            ((boolean[]) row)[i] = v != 0;
        }
        return 1;
    }

    private int shift(long[] a) {
        if (a[0] < 0 || a[0] > 5 || a[2] < 0 || a[2] > 5) {
            return -1;
        }
        Object from = tapes[(int) a[0]];
        Object to = tapes[(int) a[2]];
        if (from == null || to == null) {
            return -11;
        }
        if (from.getClass() != to.getClass()) {
            return -12;
        }
        if (a[4] < 0 || a[1] < 0 || a[3] < 0 || a[1] + a[4] > length((int) a[0]) || a[3] + a[4] > length((int) a[2])) {
            return -13;
        }
        System.arraycopy(from, (int) a[1], to, (int) a[3], (int) a[4]);
        return (int) a[4];
    }
}
