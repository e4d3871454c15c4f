import java.io.IOException;
import java.nio.file.Files;
import java.nio.file.Path;
import java.util.HashMap;
import java.util.Map;
import java.util.regex.Matcher;
import java.util.regex.Pattern;

/**
 * Compares answers with what is due; a test ends with end(). A test of single sentences names each, as the document
 * has it, ahead of the answers due by it: a sentence that the document doesn't have counts as wrong.
 */
final class Check {
    private static final Pattern BOUNDARY =
        Pattern.compile("\\b(NONE|BAD|STATE|FULL|NO|NOTHING|CAST|PLACE|SIZE|which is empty)\\b|-\\d+|\\d+ \\.\\. \\d+");

    private final Map<String, String> parts = new HashMap<>();
    private final Map<Integer, String> left = new HashMap<>();
    private String sentence = "";
    private int wrong = 0;
    private int looked = 0;

    void due(String call, long got, long want) {
        looked++;
        if (got != want) {
            wrong++;
            System.out.println(sentence + call + " answered " + got + ", due is " + want);
        }
    }

    /** The answers that follow are due by this sentence of a promise. */
    void promise(int number, String words) {
        String whole = part("Promise " + number + ":");
        named("Promise " + number, whole, words);
        left.put(number, left.getOrDefault(number, whole).replace(words, " "));
    }

    /** The answers that follow are due by this sentence of the terms. */
    void terms(String words) {
        named("Terms", part("Terms"), words);
    }

    /** Each refusal, limit and answer of its own kind that these promises tell has been named. */
    void covered(int from, int to) {
        sentence = "";
        for (int k = from; k <= to; k++) {
            String rest = left.getOrDefault(k, part("Promise " + k + ":"));
            Matcher m = BOUNDARY.matcher(rest);
            boolean open = m.find();
            due("Promise " + k + ", no test names " + (open ? m.group() + " of: " + rest : "nothing"), open ? 1 : 0, 0);
        }
    }

    private void named(String where, String whole, String words) {
        sentence = "";
        due(where + " has no such words: " + words, whole.contains(words) ? 1 : 0, 1);
        sentence = where + ", '" + words + "': ";
    }

    /** What stands under a heading that begins so, behind a call's signature, with one blank between words. */
    private String part(String heading) {
        if (parts.isEmpty()) {
            String text = document();
            for (String one : text.split("(?m)^## ")) {
                String key = one.startsWith("Promise") ? one.substring(0, one.indexOf(':') + 1) : one.split("\n")[0];
                String body = one.contains("\n") ? one.substring(one.indexOf('\n')) : "";
                parts.put(key, body.replaceAll("`[^`\n]*`: ", "").replaceAll("\\s+", " "));
            }
        }
        return parts.getOrDefault(heading, "");
    }

    private static String document() {
        try {
            return Files.readString(Path.of(System.getProperty("document")));
        } catch (IOException e) {
            System.out.println("the document is not to be read: " + e);
            System.exit(1);
            return "";
        }
    }

    void end() {
        System.out.println(looked + " answers looked at, " + wrong + " not as due");
        if (wrong != 0 || looked == 0) {
            System.exit(1);
        }
    }

    /** Feeds a whole text and makes it a ward: what ward() answers. */
    static int ward(SignalBlind x, String text) {
        for (int k = 0; k < text.length(); k++) {
            x.feed(text.charAt(k));
        }
        return x.ward();
    }
}
