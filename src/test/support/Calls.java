/** A call of SignalBlind by its name. */
final class Calls {
    private Calls() {
    }

    /** A line is a name and its numbers with blanks between. */
    static long call(SignalBlind x, String line) {
        String[] parts = line.trim().split(" +");
        long[] a = new long[parts.length - 1];
        for (int k = 0; k < a.length; k++) {
            a[k] = Long.parseLong(parts[k + 1]);
        }
        return call(x, parts[0], a);
    }

    static long call(SignalBlind x, String name, long[] a) {
        int p = a.length > 0 ? (int) a[0] : 0;
        int q = a.length > 1 ? (int) a[1] : 0;
        int r = a.length > 2 ? (int) a[2] : 0;
        switch (name) {
            case "word": return x.word(p);
            case "alter": return x.alter(p, q);
            case "sender": return x.sender(p, q);
            case "of": return x.of(p, q);
            case "shows": return x.shows(p, q);
            case "meaning": return x.meaning(p);
            case "say": return x.say(p, q);
            case "row": return x.row(p, q, r);
            case "feed": return x.feed(p);
            case "ward": return x.ward();
            case "told": return x.told(p);
            case "pass": return x.pass(p);
            case "saying": return x.saying(p, q, r);
            case "hours": return x.hours(p, q);
            case "senders": return x.senders(p, q);
            case "meant": return x.meant(p, q);
            case "passed": return x.passed(p, q);
            case "see": return x.see(p, q);
            case "can": return x.can(p, q);
            case "when": return x.when(p, q);
            case "odds": return x.odds(p, q, r);
            case "mean": return x.mean(p);
            case "relay": return x.relay(p);
            case "ends": return x.ends(p, q);
            case "book": return x.book(p, q);
            case "looked": return x.looked();
            case "judge": return x.judge(p, q);
            case "image": return x.image();
            case "undo": return x.undo();
            case "act": return x.act(p, q, r);
            case "trace": return x.trace(p);
            case "taken": return x.taken(p, q);
            case "count": return x.count(p);
            case "tape": return x.tape(p, q, r);
            case "item": return x.item(p, q, a[2]);
            case "read": return x.read(p, q);
            case "shift": return x.shift(p, q, r, (int) a[3], (int) a[4]);
            default: throw new IllegalArgumentException("no such call: " + name);
        }
    }
}
