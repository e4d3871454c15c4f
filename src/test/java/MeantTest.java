/** Promises 14 (saying), 15 (hours), 16 (senders), 17 (meant), 18 (passed). */
public final class MeantTest {
    private static final Check check = new Check();

    public static void main(String[] args) {
        saying();
        hours();
        sendersAndMeant();
        passed();
        passedThroughMany();
        check.end();
    }

    private static void saying() {
        SignalBlind x = new SignalBlind();
        x.word(5);
        x.word(2);
        x.sender(2, 0);
        x.sender(0, 0);
        check.due("the first that shows 5", x.saying(0, 0, 0), 5);
        check.due("with any odd slats", x.saying(0, 0, 1), 32);
        check.due("none shows 2", x.saying(0, 1, 0), -5);
        check.due("how many: none", x.saying(0, 1, 1), 0);
        check.due("just itself", x.saying(1, 1, 0), 2);
        check.due("just one", x.saying(1, 1, 1), 1);
        Check.ward(x, "shut 0 s=1;open 1 s=1");
        check.due("not what is read so, just the sign", x.saying(1, 0, 1), 0);
        check.due("0 is the first", x.saying(1, 1, 0), 0);
        check.due("four of them", x.saying(1, 1, 1), 4);
        check.due("saying(2, 0, 0)", x.saying(2, 0, 0), SignalBlind.NONE);
        check.due("saying(-1, 0, 0)", x.saying(-1, 0, 0), SignalBlind.NONE);
        check.due("saying(0, 2, 0)", x.saying(0, 2, 0), SignalBlind.NONE);
        check.due("saying(0, -1, 0)", x.saying(0, -1, 0), SignalBlind.NONE);
        check.due("saying(0, 0, 2)", x.saying(0, 0, 2), SignalBlind.NONE);
        check.due("saying(0, 0, -1)", x.saying(0, 0, -1), SignalBlind.NONE);
    }

    private static void hours() {
        SignalBlind x = new SignalBlind();
        x.word(2);
        x.sender(5, 0);
        x.sender(6, 1);
        Check.ward(x, "near 0");
        check.due("at odd hours", x.hours(0, 0), 0xAAAAAA);
        check.due("never: a slat is the other way", x.hours(1, 0), 0);
        x.row(1, 3, 2);
        check.due("but by its row", x.hours(1, 0), 0x888888);
        x.pass(1);
        check.due("counted from this hour", x.hours(0, 0), 0x555555);
        check.due("and by its row", x.hours(1, 0), 0x444444);
        Check.ward(x, "near 0;open 1 h>20;open 3 h<19");
        x.alter(0, 0);
        check.due("at even hours, and at 19", x.hours(0, 0), 0xAAAAAA | 1 << 18);
        check.due("hours(2, 0)", x.hours(2, 0), SignalBlind.NONE);
        check.due("hours(-1, 0)", x.hours(-1, 0), SignalBlind.NONE);
        check.due("hours(0, 1)", x.hours(0, 1), SignalBlind.NONE);
        check.due("hours(0, -1)", x.hours(0, -1), SignalBlind.NONE);
        check.due("no hour went", x.told(0), 1);
        for (int k = 0; k < 166; k++) {
            x.pass(60);
        }
        x.pass(38);
        Check.ward(x, "near 0");
        x.alter(0, 2);
        check.due("the last hour is 9999", x.told(0), 9999);
        check.due("behind it hours are as ever", x.hours(0, 0), 0x555555);
    }

    private static void sendersAndMeant() {
        SignalBlind x = new SignalBlind();
        x.word(5);
        x.word(7);
        x.word(5);
        check.due("no senders", x.senders(0, 5), 0);
        x.sender(0, 0);
        x.sender(2, 0);
        x.sender(1, 0);
        x.sender(3, 1);
        check.due("who shows 5 for 5", x.senders(0, 5), 3);
        check.due("who shows 5 for 7", x.senders(1, 5), 10);
        check.due("who shows 10 for 5", x.senders(0, 10), 4);
        check.due("who shows 0 for 5", x.senders(0, 0), 0);
        check.due("senders(3, 1024)", x.senders(3, 1024), SignalBlind.NONE);
        check.due("senders(-1, 0)", x.senders(-1, 0), SignalBlind.NONE);
        check.due("senders(0, 1024)", x.senders(0, 1024), SignalBlind.BAD);
        check.due("senders(0, -1)", x.senders(0, -1), SignalBlind.BAD);
        check.due("5 by a SENDER", x.meant(0, 5), 5);
        check.due("5 by a HALF", x.meant(1, 5), 7);
        check.due("14 by a TILTED", x.meant(2, 14), 2);
        check.due("7 by a NURSE", x.meant(3, 7), 5);
        check.due("nothing by that", x.meant(3, 6), 0);
        check.due("meant(4, 1024)", x.meant(4, 1024), SignalBlind.NONE);
        check.due("meant(-1, 0)", x.meant(-1, 0), SignalBlind.NONE);
        check.due("meant(0, 1024)", x.meant(0, 1024), SignalBlind.BAD);
        check.due("meant(0, -1)", x.meant(0, -1), SignalBlind.BAD);
    }

    private static void passed() {
        SignalBlind x = new SignalBlind();
        x.word(2);
        x.word(4);
        check.due("no senders: it stays", x.passed(0, -1), 0);
        check.due("no senders: no first", x.passed(0, 0), -5);
        x.sender(2, 0);
        check.due("one", x.passed(0, -1), 1);
        check.due("one: the first", x.passed(0, 0), 0);
        check.due("one: no second", x.passed(0, 1), -5);
        x.sender(1, 0);
        check.due("half, then tilted", x.passed(0, -1), 1);
        check.due("half first", x.passed(0, 0), 0);
        check.due("tilted behind", x.passed(0, 1), 1);
        check.due("tilted, then half", x.passed(1, -1), 1);
        check.due("tilted first", x.passed(1, 0), 1);
        check.due("half behind", x.passed(1, 1), 0);
        check.due("there are fewer", x.passed(1, 2), -5);
        check.due("there are fewer still", x.passed(1, 4), -5);
        check.due("passed(2, 0)", x.passed(2, 0), SignalBlind.NONE);
        check.due("passed(-1, 0)", x.passed(-1, 0), SignalBlind.NONE);
        check.due("passed(0, -2)", x.passed(0, -2), SignalBlind.NONE);
        check.due("passed(0, 5)", x.passed(0, 5), SignalBlind.NONE);
        check.due("nothing is sent", x.of(0, 2), 0);
        SignalBlind y = new SignalBlind();
        y.word(341);
        y.sender(1, 0);
        check.due("all slats are unlike", y.passed(0, -1), 10);
        check.due("by the one order", y.passed(0, 0), 0);
    }

    private static void dueOrder(SignalBlind x, int word, int... order) {
        for (int k = 0; k < order.length; k++) {
            check.due("passed(" + word + ", " + k + ")", x.passed(word, k), order[k]);
        }
    }

    private static void passedThroughMany() {
        SignalBlind x = new SignalBlind();
        x.word(0);
        x.word(31);
        for (int k = 0; k < 3; k++) {
            x.sender(0, k);
        }
        check.due("all orders are alike", x.passed(1, -1), 0);
        dueOrder(x, 1, 0, 1, 2);
        Check.ward(x, "shut 0 s=2&o=5;shut 1 s=1&o=4;open 0 s=0&o=3;open 1 s=0&o=3");
        check.due("2 and 1 shut, 0 opens", x.passed(1, -1), 0);
        dueOrder(x, 1, 2, 1, 0);
        x.sender(0, 3);
        x.sender(0, 4);
        check.due("two more do nothing", x.passed(1, -1), 0);
        dueOrder(x, 1, 2, 1, 0, 3, 4);
        Check.ward(x, "open 0 v=4&o=0;open 1 v=3&o=1;open 2 v=2&o=2;open 3 v=1&o=3;open 4 v=0&o=4");
        check.due("4 opens a slat always", x.passed(0, -1), 1);
        dueOrder(x, 0, 0, 1, 2, 3, 4);
        Check.ward(x, "turn 1 s=4|s=0&o=1|s=1&o=2");
        x.alter(0, 1);
        check.due("4 and 0 turn", x.passed(0, -1), 2);
        dueOrder(x, 0, 0, 1, 2, 3, 4);
    }
}
