/** Asks a thing in its own house, lets the letters flow, and compares answer and trace. */
final class Talk {
    static final int GET = 0, SET = 1, GIVE = 2, TAKE = 3, MOVE = 4, MAKE = 5, JOIN = 6, WHO = 7;
    static final int CUT = 1, POOR = 2, REFUSED = 3, SHUT = 4, NO_ROOM = 5;

    private final Check check;
    private final PromiseWire x;
    private String call;
    private int how;
    private int value;
    private long mark;

    Talk(Check check, PromiseWire x) {
        this.check = check;
        this.x = x;
    }

    Talk say(int thing, int act, int n) {
        return say(thing, act, n, thing);
    }

    Talk say(int thing, int act, int n, int other) {
        int house = x.about(thing, 0);
        long before = x.trace();
        int p = x.ask(house, 0, thing, act, n, other);
        x.flow(100);
        call = "thing " + thing + ", act " + act + ", n " + n + ", other " + other;
        how = x.state(p, house, 0);
        value = x.state(p, house, 1);
        mark = x.trace() - before;
        return this;
    }

    private void heard(int dueHow, int dueValue, long dueMark) {
        check.due(call + ": how", how, dueHow);
        check.due(call + ": value", value, dueValue);
        check.due(call + ": trace", mark, dueMark);
    }

    void number(int n, long dueMark) {
        heard(PromiseWire.NUMBER, n, dueMark);
    }

    void thing(int t, long dueMark) {
        heard(PromiseWire.THING, t, dueMark);
    }

    void broken(int reason, long dueMark) {
        heard(PromiseWire.BROKEN, reason, dueMark);
    }

    void held(long dueMark) {
        heard(PromiseWire.OPEN, 0, dueMark);
    }
}
