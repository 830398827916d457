/** Promises 1 to 7: a new object, thing, guard, shut, back, wake, about. */
public final class ThingsTest {
    private static final Check check = new Check("ThingsTest");

    public static void main(String[] args) {
        newObject();
        thing();
        thingFull();
        guard();
        shut();
        back();
        wake();
        about();
        check.end();
    }

    private static void newObject() {
        PromiseWire x = new PromiseWire();
        for (int what = 0; what <= 8; what++) {
            check.due("new: count(" + what + ")", x.count(what), 0);
        }
        check.due("new: purses()", x.purses(), 0);
        check.due("new: trace()", x.trace(), 0);
        check.due("new: about(0, 0)", x.about(0, 0), PromiseWire.BAD);
        check.due("new: promise(0, 0)", x.promise(0, 0), PromiseWire.BAD);
        for (int wire = 0; wire < 16; wire++) {
            int from = wire / 4;
            int to = wire % 4;
            check.due("new: wire", x.wire(from, to), 0);
            check.due("new: deliver", x.deliver(from, to), PromiseWire.NONE);
            check.due("new: again", x.again(from, to),
                from == to ? PromiseWire.BAD : PromiseWire.STATE);
        }
    }

    private static void thing() {
        PromiseWire x = new PromiseWire();
        int[][] bad = {{-1, 0, 0}, {4, 0, 0}, {0, -1, 0}, {0, 3, 0}, {0, 4, 0}, {0, 7, 0},
            {0, 1, -1}, {0, 5, 0}, {0, 5, 21}, {0, 6, 0}, {0, 6, 21}, {0, 6, -1},
            {Integer.MIN_VALUE, 0, 0}, {0, Integer.MAX_VALUE, 0}};
        for (int[] b : bad) {
            check.due("bad thing", x.thing(b[0], b[1], b[2]), PromiseWire.BAD);
        }
        check.due("count(0)", x.count(0), 0);
        int[][] good = {{0, 0, -5}, {1, 1, 0}, {2, 2, -7}, {3, 5, 1}, {0, 5, 20}, {1, 6, 1},
            {2, 6, 20}, {3, 0, Integer.MIN_VALUE}, {3, 1, Integer.MAX_VALUE}};
        for (int i = 0; i < good.length; i++) {
            check.due("thing " + i, x.thing(good[i][0], good[i][1], good[i][2]), i);
        }
        for (int i = 0; i < good.length; i++) {
            for (int what = 0; what <= 2; what++) {
                check.due("about " + i + " " + what, x.about(i, what), good[i][what]);
            }
        }
        check.due("count(0)", x.count(0), good.length);
    }

    private static void thingFull() {
        PromiseWire x = new PromiseWire();
        for (int i = 0; i < 40; i++) {
            check.due("thing", x.thing(i % 4, 0, 0), i);
        }
        check.due("thing: BAD before FULL", x.thing(4, 0, 0), PromiseWire.BAD);
        check.due("thing: FULL", x.thing(0, 0, 0), PromiseWire.FULL);
        check.due("guard: BAD before FULL", x.guard(0, 40, 0, false), PromiseWire.BAD);
        check.due("guard: FULL", x.guard(0, 0, 0, false), PromiseWire.FULL);
        check.due("count(0)", x.count(0), 40);
    }

    private static void guard() {
        PromiseWire x = new PromiseWire();
        check.due("guard of nothing", x.guard(0, 0, 0, false), PromiseWire.BAD);
        x.thing(1, 0, 7);
        int[][] bad = {{-1, 0, 0}, {4, 0, 0}, {0, -1, 0}, {0, 1, 0}, {0, 0, -1}, {0, 0, 256}};
        for (int[] b : bad) {
            check.due("bad guard", x.guard(b[0], b[1], b[2], true), PromiseWire.BAD);
        }
        check.due("guard", x.guard(2, 0, 255, false), 1);
        check.due("switch", x.guard(3, 1, 0, true), 2);
        int[][] due = {{2, 3, 0, 0, 255, 0, 0, 0}, {3, 4, 0, 1, 0, 0, 0, 0}};
        for (int g = 0; g < 2; g++) {
            for (int what = 0; what <= 7; what++) {
                check.due("about guard " + what, x.about(g + 1, what), due[g][what]);
            }
        }
    }

    private static void shut() {
        PromiseWire x = new PromiseWire();
        x.thing(0, 0, 0);
        x.guard(0, 0, 255, false);
        x.guard(0, 0, 255, true);
        check.due("shut a cell", x.shut(0, true), PromiseWire.BAD);
        check.due("shut(-1)", x.shut(-1, true), PromiseWire.BAD);
        check.due("shut(3)", x.shut(3, true), PromiseWire.BAD);
        for (int g = 1; g <= 2; g++) {
            check.due("shut", x.shut(g, true), 0);
            check.due("shut still", x.shut(g, true), 1);
            check.due("about 5", x.about(g, 5), 1);
            check.due("about 6", x.about(g, 6), 0);
            check.due("open", x.shut(g, false), 1);
            check.due("open still", x.shut(g, false), 0);
            check.due("about 5", x.about(g, 5), 0);
        }
    }

    private static void back() {
        PromiseWire x = new PromiseWire();
        x.thing(0, 0, 0);
        x.guard(0, 0, 255, false);
        x.guard(0, 0, 255, true);
        check.due("back of a cell", x.back(0), PromiseWire.BAD);
        check.due("back of a guard", x.back(1), PromiseWire.BAD);
        check.due("back(-1)", x.back(-1), PromiseWire.BAD);
        check.due("back(3)", x.back(3), PromiseWire.BAD);
        check.due("back", x.back(2), 1);
        check.due("back", x.back(2), 0);
        check.due("about 6", x.about(2, 6), 1);
        check.due("about 5", x.about(2, 5), 0);
    }

    private static void wake() {
        PromiseWire x = new PromiseWire();
        x.thing(0, 0, 0);
        x.thing(0, 5, 2);
        x.thing(0, 6, 1);
        check.due("wake a cell", x.wake(0, 1), PromiseWire.BAD);
        check.due("wake a joiner", x.wake(1, 1), PromiseWire.BAD);
        check.due("wake(-1)", x.wake(-1, 1), PromiseWire.BAD);
        check.due("wake(3)", x.wake(3, 1), PromiseWire.BAD);
        check.due("wake none", x.wake(2, 1), 0);
        for (int p = 0; p < 3; p++) {
            x.ask(1, 0, 2, 6, p, 0);
        }
        x.flow(100);
        check.due("held", x.about(2, 7), 3);
        long trace = x.trace();
        int turns = x.count(8);
        check.due("wake", x.wake(2, -4), 3);
        check.due("wake leaves the trace", x.trace(), trace);
        check.due("wake is no turn", x.count(8), turns);
        check.due("held", x.about(2, 7), 0);
        for (int p = 0; p < 3; p++) {
            check.due("answer's order", x.letter(0, 1, p, 1), p);
            check.due("answer's how", x.letter(0, 1, p, 2), PromiseWire.NUMBER);
            check.due("answer", x.letter(0, 1, p, 3), -4);
            check.due("home", x.state(p, 0, 1), -4);
            check.due("asker", x.state(p, 1, 0), PromiseWire.OPEN);
        }
        check.due("wake again", x.wake(2, 5), 0);
        check.due("home stays", x.state(0, 0, 1), -4);
    }

    private static void about() {
        PromiseWire x = new PromiseWire();
        x.thing(3, 6, 4);
        int[] due = {3, 6, 4, PromiseWire.NONE, 0, 0, 0, 0};
        for (int what = 0; what <= 7; what++) {
            check.due("about " + what, x.about(0, what), due[what]);
        }
        check.due("about(0, -1)", x.about(0, -1), PromiseWire.BAD);
        check.due("about(0, 8)", x.about(0, 8), PromiseWire.BAD);
        check.due("about(1, 0)", x.about(1, 0), PromiseWire.BAD);
        check.due("about(-1, 0)", x.about(-1, 0), PromiseWire.BAD);
    }
}
