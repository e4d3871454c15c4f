/**
 * What an object tells of itself by some 300 calls, as a text: two objects by which all is alike tell the same.
 * The object is used up by it: hours go, the text becomes a ward, the image comes back.
 */
final class Snapshot {
    private Snapshot() {
    }

    static String of(SignalBlind x) {
        StringBuilder out = new StringBuilder();
        for (int k = 0; k < 13; k++) {
            out.append(x.trace(k)).append(' ');
        }
        tapes(x, out);
        scene(x, out);
        rows(x, out);
        out.append("| ward ").append(x.ward()).append(" near ").append(x.told(1));
        out.append("| undo ").append(x.undo());
        scene(x, out);
        rows(x, out);
        return out.toString();
    }

    private static void tapes(SignalBlind x, StringBuilder out) {
        for (int tape = 0; tape < 6; tape++) {
            out.append("| tape ").append(x.item(tape, -1, 0));
            for (int k = 0; k < 4; k++) {
                out.append(' ').append(x.read(tape, k));
            }
        }
    }

    private static void scene(SignalBlind x, StringBuilder out) {
        out.append("| counts");
        for (int what = 0; what < 8; what++) {
            out.append(' ').append(x.count(what));
        }
        out.append("| told ").append(x.told(0)).append(' ').append(x.told(1));
        for (int w = 0; w < x.count(1); w++) {
            out.append(' ').append(x.told(10 + w));
        }
        out.append("| ends ").append(x.ends(0, 0)).append(' ').append(x.ends(1, 0)).append(" looked ").append(x.looked());
        for (int s = 0; s < x.count(0); s++) {
            out.append("| sender");
            for (int what = 0; what < 4; what++) {
                out.append(' ').append(x.of(s, what));
            }
            out.append(' ').append(x.shows(s, 37)).append(' ').append(x.can(s, 0)).append(' ').append(x.can(s, 1));
            out.append(' ').append(x.when(s, 0)).append(' ').append(x.when(s, 1));
        }
    }

    /** Rows of TOLD ones show hour by hour. */
    private static void rows(SignalBlind x, StringBuilder out) {
        for (int k = 0; k < 4; k++) {
            out.append("| hour ").append(x.pass(1));
            for (int s = 0; s < x.count(0); s++) {
                out.append(' ').append(x.shows(s, 0));
            }
        }
    }
}
