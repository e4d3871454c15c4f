/** Promises 31 (act), 32 (trace), 33 (taken), 34 (count of bodies). */
public final class ActTest {
    private static final Check check = new Check();

    public static void main(String[] args) {
        bodies();
        wrapping();
        noSuchAct();
        taken();
        check.end();
    }

    private static void due(SignalBlind x, int sender, int act, int x1, int answer, int... bodies) {
        String call = "act(" + sender + ", " + act + ", " + x1 + ")";
        check.due(call, x.act(sender, act, x1), answer);
        check.due(call + ": bodies", x.count(7), bodies.length);
        for (int k = 0; k < bodies.length; k++) {
            check.due(call + ": trace(" + k + ")", x.trace(k), bodies[k]);
        }
        check.due(call + ": behind the trace", x.trace(bodies.length), SignalBlind.NONE);
        check.due(call + ": ahead of the trace", x.trace(-1), SignalBlind.NONE);
    }

    private static void bodies() {
        SignalBlind x = new SignalBlind();
        x.sender(0, 3);
        x.sender(1, 4);
        x.sender(2, 5);
        x.sender(3, 6);
        x.sender(6, 7);
        due(x, 0, 0, 10, 10, 10);
        due(x, 0, 1, 10, 7, 11, 10);
        due(x, 0, 2, 10, 14, 12, 11, 10);
        due(x, 1, 0, 10, 11, 10);
        due(x, 1, 1, 10, 1, 20, 11, 10);
        due(x, 1, 2, 10, 2, 12, 20, 11, 10);
        due(x, 2, 0, 10, 32, 30, 10);
        due(x, 2, 1, 10, 27, 11, 30, 10);
        due(x, 2, 2, 10, 54, 12, 11, 30, 10);
        due(x, 3, 0, 10, 13, 10);
        due(x, 3, 1, 10, 7, 11, 10);
        due(x, 3, 2, 10, 12, 40, 12, 11, 10, 11, 10);
        due(x, 4, 0, 10, 9, 71, 10);
        due(x, 4, 1, 10, 8, 70, 11, 71, 10, 10);
        due(x, 4, 2, 10, 17, 40, 12, 70, 11, 71, 10, 10, 70, 11, 71, 10, 10);
        SignalBlind y = new SignalBlind();
        y.sender(0, 0);
        y.sender(4, 2);
        y.sender(5, 8);
        due(y, 1, 0, 10, -11, 50, 10);
        due(y, 1, 1, 10, -12, 51, 20, 11, 50, 10);
        due(y, 1, 2, 10, -24, 12, 51, 20, 11, 50, 10);
        due(y, 2, 0, 10, 32, 30, 10);
        due(y, 2, 1, 10, 24, 11, 30, 10);
        due(y, 2, 2, 10, 36, 60, 12, 11, 30, 10);
    }

    private static void wrapping() {
        SignalBlind x = new SignalBlind();
        x.sender(0, 9);
        x.sender(4, 0);
        x.sender(2, 0);
        due(x, 0, 1, Integer.MIN_VALUE, Integer.MAX_VALUE - 8, 11, 10);
        due(x, 0, 2, Integer.MIN_VALUE, -18, 12, 11, 10);
        due(x, 1, 0, Integer.MAX_VALUE, Integer.MIN_VALUE, 50, 10);
        due(x, 2, 0, Integer.MAX_VALUE, Integer.MAX_VALUE, 30, 10);
    }

    private static void noSuchAct() {
        SignalBlind x = new SignalBlind();
        due(x, 0, 0, 5, 0);
        x.sender(0, 3);
        x.act(0, 2, 10);
        check.due("a call that is no act leaves it", x.trace(9), SignalBlind.NONE);
        check.due("the trace stays", x.trace(2), 10);
        due(x, 0, 3, 5, 0);
        x.act(0, 2, 10);
        due(x, 0, -1, 5, 0);
        x.act(0, 2, 10);
        due(x, 1, 0, 5, 0);
        x.act(0, 2, 10);
        due(x, -1, 0, 5, 0);
        due(x, Integer.MIN_VALUE, Integer.MAX_VALUE, 5, 0);
    }

    private static void taken() {
        int[][] kinds = {{0}, {0, 1}, {0, 2}, {0, 3}, {0, 1, 4}, {0, 2, 5}, {0, 3, 6}};
        for (int kind = 0; kind < 7; kind++) {
            SignalBlind x = new SignalBlind();
            check.due("nobody", x.taken(0, kind), -11);
            x.sender(kind, 0);
            for (int k = 0; k < 7; k++) {
                int want = -12;
                for (int one : kinds[kind]) {
                    want = one == k ? kind : want;
                }
                check.due("one of KIND " + kind + " for one of KIND " + k, x.taken(0, k), want);
            }
            check.due("taken(0, -1)", x.taken(0, -1), SignalBlind.BAD);
            check.due("taken(0, 7)", x.taken(0, 7), SignalBlind.BAD);
            check.due("taken(1, 7)", x.taken(1, 7), SignalBlind.BAD);
            check.due("taken(1, 0)", x.taken(1, 0), -11);
            check.due("taken(-1, 0)", x.taken(-1, 0), -11);
        }
    }
}
