/** What each kind does as it hears a message, and what that adds to the trace (the terms, 20). */
public final class KindsTest {
    private static final int CUT = 1, POOR = 2, REFUSED = 3, SHUT = 4, NO_ROOM = 5;
    private static final Check check = new Check("KindsTest");

    public static void main(String[] args) {
        cell();
        purse();
        move();
        moveUnderWay();
        maker();
        makerFull();
        guard();
        switchKind();
        joiner();
        joinerOfOne();
        sleeper();
        check.end();
    }

    /** Asks in the thing's own house, lets all flow, and compares answer and trace. */
    private static void heard(PromiseWire x, int thing, int[] message, int[] due, long mark) {
        int house = x.about(thing, 0);
        long trace = x.trace();
        int p = x.ask(house, 0, thing, message[0], message[1], message[2]);
        x.flow(100);
        String call = "thing " + thing + " act " + message[0] + " n " + message[1];
        check.due(call + ": how", x.state(p, house, 0), due[0]);
        check.due(call + ": value", x.state(p, house, 1), due[1]);
        check.due(call + ": trace", x.trace() - trace, mark);
    }

    private static int[] act(int act, int n) {
        return new int[] {act, n, -1};
    }

    private static int[] number(int n) {
        return new int[] {PromiseWire.NUMBER, n};
    }

    private static int[] thing(int t) {
        return new int[] {PromiseWire.THING, t};
    }

    private static int[] broken(int reason) {
        return new int[] {PromiseWire.BROKEN, reason};
    }

    private static int[] held() {
        return new int[] {PromiseWire.OPEN, 0};
    }

    private static void cell() {
        PromiseWire x = new PromiseWire();
        x.thing(2, 0, 5);
        heard(x, 0, act(0, 9), number(5), 1);
        heard(x, 0, act(1, 8), number(5), 1);
        heard(x, 0, act(2, 3), number(11), 1);
        heard(x, 0, act(3, 20), number(-9), 1);
        heard(x, 0, act(7, 0), thing(0), 1);
        heard(x, 0, new int[] {4, 0, 0}, broken(REFUSED), 1);
        heard(x, 0, act(5, 0), broken(REFUSED), 1);
        heard(x, 0, act(6, 0), broken(REFUSED), 1);
        heard(x, 0, act(1, Integer.MAX_VALUE), number(-9), 1);
        heard(x, 0, act(2, 1), number(Integer.MIN_VALUE), 1);
        heard(x, 0, act(3, 1), number(Integer.MAX_VALUE), 1);
        heard(x, 0, act(2, -7), number(Integer.MAX_VALUE - 7), 1);
    }

    private static void purse() {
        PromiseWire x = new PromiseWire();
        x.thing(1, 1, 10);
        heard(x, 0, act(0, 0), number(10), 11);
        heard(x, 0, act(1, 1), broken(REFUSED), 10);
        heard(x, 0, act(2, -1), broken(REFUSED), 10);
        heard(x, 0, act(3, -1), broken(REFUSED), 10);
        heard(x, 0, act(2, 5), number(15), 11);
        heard(x, 0, act(3, 16), broken(POOR), 10);
        heard(x, 0, act(3, 15), number(0), 11);
        heard(x, 0, act(3, 0), number(0), 11);
        heard(x, 0, act(7, 0), thing(0), 11);
        heard(x, 0, act(5, 0), broken(REFUSED), 11);
        heard(x, 0, act(6, 0), broken(REFUSED), 11);
    }

    private static void move() {
        PromiseWire x = new PromiseWire();
        x.thing(1, 1, 10);
        x.thing(1, 1, 1);
        x.thing(1, 0, 0);
        heard(x, 0, new int[] {4, -1, 1}, broken(REFUSED), 10);
        heard(x, 0, new int[] {4, 1, 2}, broken(REFUSED), 10);
        heard(x, 0, new int[] {4, 11, 2}, broken(REFUSED), 10);
        heard(x, 0, new int[] {4, 11, 1}, broken(POOR), 10);
        heard(x, 0, new int[] {4, 10, 1}, number(11), 21);
        heard(x, 0, new int[] {4, 1, 1}, broken(POOR), 10);
        heard(x, 1, new int[] {4, 3, 1}, number(11), 21);
        heard(x, 0, new int[] {4, 0, 1}, number(11), 21);
        check.due("left", x.about(0, 2), 0);
        x.guard(1, 1, 255, false);
        heard(x, 0, new int[] {4, 0, 3}, broken(REFUSED), 10);
        heard(x, 3, new int[] {4, 4, 0}, number(4), 1021);
    }

    private static void moveUnderWay() {
        PromiseWire x = new PromiseWire();
        x.thing(0, 1, 10);
        x.thing(1, 1, 1);
        int p = x.ask(2, 0, 0, 4, 6, 1);
        check.due("ACT MOVE", x.letter(2, 0, 0, 2), 4);
        check.due("purses while asked", x.purses(), 11);
        x.deliver(2, 0);
        check.due("it is less", x.about(0, 2), 4);
        check.due("sent on as GIVE", x.letter(0, 1, 0, 2), 2);
        check.due("n", x.letter(0, 1, 0, 3), 6);
        check.due("to", x.letter(0, 1, 0, 4), 1);
        check.due("purses under way", x.purses(), 11);
        x.deliver(0, 1);
        check.due("it is more", x.about(1, 2), 7);
        check.due("purses after", x.purses(), 11);
        check.due("an answer to HOME", x.letter(1, 0, 0, 0), 1);
        x.cut(0, 1);
        check.due("no coming back of an answer", x.about(0, 2), 4);
        check.due("broken", x.state(p, 0, 1), CUT);
        int q = x.ask(0, 0, 0, 4, 4, 1);
        x.deliver(0, 0);
        check.due("came back at once", x.about(0, 2), 4);
        check.due("broken at once", x.state(q, 0, 1), CUT);
        check.due("purses", x.purses(), 11);
    }

    private static void maker() {
        PromiseWire x = new PromiseWire();
        x.thing(3, 2, 7);
        heard(x, 0, act(0, 0), number(7), 100);
        heard(x, 0, act(7, 0), thing(0), 100);
        heard(x, 0, act(5, -1), broken(REFUSED), 100);
        heard(x, 0, act(5, 3), broken(REFUSED), 100);
        for (int kind = 0; kind <= 2; kind++) {
            heard(x, 0, act(5, kind), thing(kind + 1), 100);
            check.due("made: house", x.about(kind + 1, 0), 3);
            check.due("made: kind", x.about(kind + 1, 1), kind);
            check.due("made: number", x.about(kind + 1, 2), 0);
            check.due("made: guards", x.about(kind + 1, 3), PromiseWire.NONE);
            check.due("made: acts", x.about(kind + 1, 4), 0);
        }
        heard(x, 0, act(0, 0), number(10), 100);
        int[] refused = {1, 2, 3, 6};
        for (int a : refused) {
            heard(x, 0, act(a, 1), broken(REFUSED), 100);
        }
        heard(x, 0, new int[] {4, 0, 2}, broken(REFUSED), 100);
    }

    private static void makerFull() {
        PromiseWire x = new PromiseWire();
        x.thing(3, 2, Integer.MAX_VALUE);
        for (int i = 1; i < 39; i++) {
            x.thing(0, 0, 0);
        }
        heard(x, 0, act(5, 1), thing(39), 100);
        check.due("it goes round", x.about(0, 2), Integer.MIN_VALUE);
        heard(x, 0, act(5, 3), broken(REFUSED), 100);
        heard(x, 0, act(5, 1), broken(NO_ROOM), 100);
        check.due("not one more", x.about(0, 2), Integer.MIN_VALUE);
        check.due("count(0)", x.count(0), 40);
    }

    private static void guard() {
        PromiseWire x = new PromiseWire();
        x.thing(0, 0, 5);
        for (int act = 0; act <= 7; act++) {
            x.guard(0, 0, 1 << act, false);
        }
        for (int act = 0; act <= 7; act++) {
            for (int g = 0; g <= 7; g++) {
                long trace = x.trace();
                int p = x.ask(0, 0, g + 1, act, 0, 0);
                x.flow(100);
                check.due("guard " + g + " act " + act, x.trace() - trace, g == act ? 1001 : 1000);
                if (g != act) {
                    check.due("let through", x.state(p, 0, 1), REFUSED);
                }
            }
        }
        x.shut(1, true);
        heard(x, 1, act(0, 0), broken(SHUT), 1000);
        heard(x, 1, act(1, 0), broken(SHUT), 1000);
        x.shut(1, false);
        heard(x, 1, act(0, 0), number(0), 1001);
        heard(x, 8, act(7, 0), thing(0), 1001);
    }

    private static void switchKind() {
        PromiseWire x = new PromiseWire();
        x.thing(0, 0, 5);
        x.guard(0, 0, 1, true);
        heard(x, 1, act(0, 0), number(5), 11001);
        heard(x, 1, act(1, 0), broken(REFUSED), 11000);
        x.shut(1, true);
        heard(x, 1, act(0, 0), broken(SHUT), 11000);
        x.shut(1, false);
        x.back(1);
        heard(x, 1, act(0, 0), broken(SHUT), 10000);
        heard(x, 1, act(1, 0), broken(SHUT), 10000);
    }

    private static void joiner() {
        PromiseWire x = new PromiseWire();
        x.thing(1, 5, 3);
        heard(x, 0, act(0, 0), number(0), 100000);
        heard(x, 0, act(6, Integer.MAX_VALUE), held(), 100000);
        heard(x, 0, act(6, 2), held(), 100000);
        heard(x, 0, act(0, 0), number(2), 100000);
        heard(x, 0, act(7, 0), thing(0), 100000);
        int[] refused = {1, 2, 3, 5};
        for (int a : refused) {
            heard(x, 0, act(a, 0), broken(REFUSED), 100000);
        }
        heard(x, 0, new int[] {4, 0, 0}, broken(REFUSED), 100000);
        check.due("count(6)", x.count(6), 2);
        heard(x, 0, act(6, 3), number(Integer.MIN_VALUE + 4), 100000);
        check.due("the first", x.state(1, 1, 1), Integer.MIN_VALUE + 4);
        check.due("the second", x.state(2, 1, 1), Integer.MIN_VALUE + 4);
        check.due("none held", x.about(0, 7), 0);
        check.due("its NUMBER stays", x.about(0, 2), 3);
        heard(x, 0, act(6, 1), held(), 100000);
        check.due("held anew", x.about(0, 7), 1);
    }

    private static void joinerOfOne() {
        PromiseWire x = new PromiseWire();
        x.thing(1, 5, 1);
        heard(x, 0, act(6, 8), number(8), 100000);
        heard(x, 0, act(6, 9), number(9), 100000);
    }

    private static void sleeper() {
        PromiseWire x = new PromiseWire();
        x.thing(1, 6, 1);
        heard(x, 0, act(6, 8), held(), 1000000);
        heard(x, 0, act(6, 9), held(), 1000000);
        heard(x, 0, act(0, 0), number(2), 1100000);
        heard(x, 0, act(7, 0), thing(0), 1100000);
        int[] refused = {1, 2, 3, 5};
        for (int a : refused) {
            heard(x, 0, act(a, 1), broken(REFUSED), 1100000);
        }
        heard(x, 0, new int[] {4, 0, 0}, broken(REFUSED), 1100000);
        check.due("wake", x.wake(0, 77), 2);
        check.due("woken", x.state(0, 1, 1), 77);
        check.due("woken", x.state(1, 1, 1), 77);
    }
}
