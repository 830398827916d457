/** Promises 18 to 20: purses, count, trace. */
public final class SeenTest {
    private static final Check check = new Check("SeenTest");

    public static void main(String[] args) {
        purses();
        pursesOfOneHouse();
        count();
        trace();
        check.end();
    }

    private static void purses() {
        PromiseWire x = new PromiseWire();
        x.thing(0, 0, 1000);
        x.thing(0, 1, Integer.MAX_VALUE);
        x.thing(1, 1, Integer.MAX_VALUE);
        check.due("more than 32 bits", x.purses(), 2L * Integer.MAX_VALUE);
        x.ask(0, 0, 1, 4, 7, 2);
        x.ask(0, 0, 2, 2, 3, 0);
        check.due("GIVE does not count", x.purses(), 2L * Integer.MAX_VALUE);
        x.deliver(0, 0);
        check.due("MOVE does", x.purses(), 2L * Integer.MAX_VALUE);
        x.deliver(0, 1);
        x.deliver(0, 1);
        check.due("it goes round", x.purses(),
            (long) Integer.MAX_VALUE - 7 + (Integer.MAX_VALUE + 10));
    }

    private static void pursesOfOneHouse() {
        for (int house = 0; house < 4; house++) {
            PromiseWire x = new PromiseWire();
            x.thing(house, 1, 9);
            x.thing(house, 1, 1);
            x.ask(house, 0, 0, 4, 6, 1);
            x.deliver(house, house);
            check.due("taken", x.about(0, 2), 3);
            check.due("under way in house " + house, x.purses(), 10);
            x.deliver(house, house);
            check.due("arrived in house " + house, x.purses(), 10);
        }
    }

    private static void count() {
        PromiseWire x = new PromiseWire();
        check.due("count(-1)", x.count(-1), PromiseWire.BAD);
        check.due("count(9)", x.count(9), PromiseWire.BAD);
        x.thing(0, 6, 1);
        x.thing(1, 0, 0);
        x.ask(0, 0, 0, 6, 0, 0);
        x.ask(0, 1, 0, 0, 0, 0);
        x.ask(0, 1, 0, 0, 0, 0);
        x.ask(0, 0, 1, 0, 0, 0);
        x.flow(4);
        x.ask(1, 0, 0, 6, 0, 0);
        x.when(1, 3, 1);
        x.cut(2, 3);
        x.cut(3, 0);
        int[] due = {2, 5, 4, 3, 1, 2, 1, 2, 2};
        for (int what = 0; what <= 8; what++) {
            check.due("count(" + what + ")", x.count(what), due[what]);
        }
    }

    private static void trace() {
        PromiseWire x = new PromiseWire();
        x.thing(0, 0, 0);
        x.thing(0, 1, 0);
        x.thing(0, 2, 0);
        x.guard(0, 0, 0, false);
        x.guard(0, 0, 0, true);
        x.thing(0, 5, 20);
        x.thing(0, 6, 20);
        for (int t = 0; t < 7; t++) {
            x.ask(0, 0, t, 0, 0, 0);
        }
        check.due("none yet", x.trace(), 0);
        x.flow(100);
        check.due("each and its up", x.trace(), 1 + 11 + 100 + 1000 + 11000 + 100000 + 1100000);
        check.due("turns", x.count(8), 7);
    }
}
