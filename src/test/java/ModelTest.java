import java.util.Map;
import java.util.TreeMap;
import java.util.TreeSet;

/** Long runs of mixed calls, all promises: what SignalBlind answers against what PlainBlind does. */
public final class ModelTest {
    private static final int RUNS = 400, CALLS = 410;
    private static final String[] NAMES = {"word", "alter", "sender", "of", "shows", "meaning", "say", "row", "feed",
        "ward", "told", "pass", "saying", "hours", "senders", "meant", "passed", "see", "can", "when", "odds", "mean",
        "relay", "ends", "book", "looked", "judge", "image", "undo", "act", "trace", "taken", "count", "tape", "item",
        "read", "shift"};
    private static final Check check = new Check();
    private static final Map<String, TreeSet<Long>> answers = new TreeMap<>();
    private static long seed;

    public static void main(String[] args) {
        for (int run = 0; run < RUNS; run++) {
            seed = run * 7919L + 17;
            oneRun(run);
        }
        for (String name : NAMES) {
            int unlike = answers.get(name).size();
            check.due(name + " answered more than one thing", unlike > 1 ? 1 : 0, 1);
        }
        check.end();
    }

    private static int below(int n) {
        seed = seed * 6364136223846793005L + 1442695040888963407L;
        return (int) ((seed >>> 33) % n);
    }

    /** A number up to n, now and then one just beyond, seldom one far off. */
    private static int about(int n) {
        int how = below(60);
        if (how == 0) {
            return below(2) == 0 ? Integer.MIN_VALUE + below(3) : Integer.MAX_VALUE - below(3);
        }
        return how < 5 ? below(n + 4) - 2 : below(n);
    }

    /** Asks the model, as the object is promised for so many calls only. */
    private static int ask(PlainBlind plain, String name, long... a) {
        return (int) plain.call(name, a);
    }

    private static int sign(PlainBlind plain) {
        int how = below(10);
        if (how < 4) {
            return ask(plain, "told", 10 + below(8)) & 1023;
        }
        if (how < 7 && ask(plain, "count", 0) > 0 && ask(plain, "count", 1) > 0) {
            return ask(plain, "shows", below(ask(plain, "count", 0)), ask(plain, "told", 10 + below(ask(plain, "count", 1))));
        }
        return how == 9 ? about(1024) : below(1024);
    }

    private static void oneRun(int run) {
        SignalBlind x = new SignalBlind();
        PlainBlind plain = new PlainBlind();
        int people = 1 + run % 5;
        boolean fewSigns = run % 3 == 0;
        for (int k = 0; k < CALLS; k++) {
            String name = NAMES[below(NAMES.length)];
            if (name.equals("feed") || k % 60 == 30) {
                k += written(run, x, plain);
            } else {
                if (name.equals("sender") && ask(plain, "count", 0) >= people && below(8) != 0) {
                    name = "shows";
                }
                if ((name.equals("saying") || name.equals("passed") || name.equals("told")) && below(4) != 0) {
                    name = "ends";
                }
                if ((name.equals("undo") || name.equals("image")) && below(3) == 0) {
                    name = "looked";
                }
                both(run, x, plain, name, arguments(name, plain, fewSigns));
            }
        }
    }

    private static int written(int run, SignalBlind x, PlainBlind plain) {
        String text = below(8) == 0 ? "" + (char) below(128) : text();
        for (int k = 0; k < text.length(); k++) {
            both(run, x, plain, "feed", new long[] {text.charAt(k)});
        }
        if (below(10) != 0) {
            both(run, x, plain, "ward", new long[0]);
        }
        return text.length();
    }

    private static String text() {
        StringBuilder b = new StringBuilder();
        int clauses = below(5) == 0 ? 1 + below(12) : 1 + below(4);
        boolean plain = clauses > 4;
        for (int k = 0; k < clauses; k++) {
            String verb = plain ? "near" : new String[] {"open", "shut", "turn", "near"}[below(4)];
            b.append(k > 0 ? ";" : "").append(verb).append(' ').append(below(4) == 0 ? below(100) : below(10));
            if (!verb.equals("near")) {
                b.append(' ').append(expression(0, 3));
            }
        }
        if (below(3) == 0) {
            int at = below(b.length());
            String noise = "()!&|; =<>skvofh0123onst";
            if (below(2) == 0) {
                b.setCharAt(at, noise.charAt(below(noise.length())));
            } else if (below(2) == 0) {
                b.insert(at, noise.charAt(below(noise.length())));
            } else {
                b.deleteCharAt(at);
            }
        }
        return b.toString();
    }

    private static String expression(int depth, int width) {
        int how = below(12);
        if (how < 3 && width > 0) {
            return expression(depth, width - 1) + (how == 0 ? "&" : "|") + expression(depth, width - 1);
        }
        if (how < 5 && (depth < 4 || below(6) == 0)) {
            return "(" + expression(depth + 1, width) + ")";
        }
        if (how < 7 && (depth < 4 || below(6) == 0)) {
            return "!" + expression(depth + 1, 0);
        }
        int letter = below(6);
        int[] ranges = {5, 7, 10, 11, 10, 24};
        return "" + "skvofh".charAt(letter) + "<=>".charAt(below(3)) + below(ranges[letter]);
    }

    private static long[] arguments(String name, PlainBlind plain, boolean fewSigns) {
        int words = Math.max(1, ask(plain, "count", 1));
        int people = Math.max(1, ask(plain, "count", 0));
        switch (name) {
            case "word":
                return new long[] {fewSigns ? about(32) : sign(plain)};
            case "alter":
            case "senders":
                return new long[] {about(words), fewSigns ? below(32) : sign(plain)};
            case "see":
            case "book":
                int w = about(words);
                return new long[] {w, below(2) == 0 && people > 0 ? shown(plain, w) : sign(plain)};
            case "sender":
                return new long[] {about(7), about(10)};
            case "of":
                return new long[] {about(people), about(5)};
            case "shows":
            case "meant":
                return new long[] {about(people), sign(plain)};
            case "meaning":
                return new long[] {sign(plain)};
            case "say":
            case "hours":
                return new long[] {about(people), about(words)};
            case "row":
                return new long[] {about(people), about(4), about(10)};
            case "told":
                return new long[] {about(18)};
            case "pass":
                return new long[] {below(3) == 0 ? about(61) : below(4)};
            case "saying":
            case "odds":
                return new long[] {about(people), about(words), about(2)};
            case "passed":
                return new long[] {about(words), about(6) - 1};
            case "can":
            case "when":
                return new long[] {about(people), about(2)};
            case "mean":
                return new long[] {about(2)};
            case "relay":
                return new long[] {below(12) == 0 ? -1 : about(6)};
            case "ends":
                return new long[] {about(words), about(2)};
            case "trace":
                return new long[] {about(13)};
            case "taken":
                return new long[] {about(people), about(7)};
            case "count":
                return new long[] {about(8)};
            case "act":
                return new long[] {about(people), about(3), below(3) == 0 ? about(9) : below(2000) - 1000};
            default:
                return tapeArguments(name, plain);
        }
    }

    private static long shown(PlainBlind plain, int word) {
        return ask(plain, "count", 0) > 0 ? ask(plain, "shows", below(ask(plain, "count", 0)), Math.max(0, ask(plain, "told", 10 + (word & 7)))) : 0;
    }

    private static long[] tapeArguments(String name, PlainBlind plain) {
        switch (name) {
            case "tape":
                return new long[] {about(6), below(2) == 0 ? 1 : about(7) - 1, below(3) == 0 ? about(61) : below(9)};
            case "item":
                return new long[] {about(6), about(9), below(2) == 0 ? ask(plain, "told", 10 + below(8)) : about(9) * 65537L};
            case "read":
                return new long[] {about(6), about(9)};
            case "judge":
                return new long[] {about(6), about(5)};
            case "shift":
                return new long[] {about(6), about(5), about(6), about(5), about(5)};
            default:
                return new long[0];
        }
    }

    private static void both(int run, SignalBlind x, PlainBlind plain, String name, long[] a) {
        long want = plain.call(name, a);
        long got = Calls.call(x, name, a);
        StringBuilder told = new StringBuilder("run " + run + ": " + name);
        for (long one : a) {
            told.append(' ').append(one);
        }
        check.due(told.toString(), got, want);
        answers.computeIfAbsent(name, key -> new TreeSet<>()).add(want);
    }
}
