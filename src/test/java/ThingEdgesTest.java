/** Promises 1 to 7 at their edges: just inside, just outside, nothing there, all places taken. */
public final class ThingEdgesTest {
    private static final int BAD = PromiseWire.BAD, STATE = PromiseWire.STATE,
        NONE = PromiseWire.NONE;
    private static final int MIN = Integer.MIN_VALUE, MAX = Integer.MAX_VALUE;
    private static final Check check = new Check("ThingEdgesTest");

    public static void main(String[] args) {
        newHasNothing();
        newRefusesWhatNeedsSomething();
        newHasAllWires();
        objectsShareNothing();
        thingRefused();
        thingNumberBounds();
        thingCountsOn();
        placesTaken();
        guardRefused();
        guardBounds();
        shutRefused();
        shutTellsWhatWas();
        backRefused();
        backForEver();
        wakeRefused();
        wakeOfNone();
        wakeAnyNumber();
        wakeMoreThanItsNumber();
        wakeInOrder();
        wakeOneSleeperAlone();
        wakeSettlesAllBeforeAnyIsDone();
        aboutRefused();
        aboutEachKind();
        check.end();
    }

    // ---- 1: "No THINGS, no PROMISES; all WIRES are there."

    private static void newHasNothing() {
        PromiseWire x = new PromiseWire();
        for (int what = 0; what <= 8; what++) {
            check.due("new: count(" + what + ")", x.count(what), 0);
        }
        check.due("new: purses()", x.purses(), 0);
        check.due("new: trace()", x.trace(), 0);
        check.due("new: flow(1)", x.flow(1), 0);
        check.due("new: flow(100)", x.flow(100), 0);
        for (int wire = 0; wire < 16; wire++) {
            check.due("new: wire", x.wire(wire / 4, wire % 4), 0);
            check.due("new: deliver", x.deliver(wire / 4, wire % 4), NONE);
            check.due("new: letter", x.letter(wire / 4, wire % 4, 0, 0), NONE);
        }
    }

    private static void newRefusesWhatNeedsSomething() {
        Refusals none = new Refusals(check, x -> { });
        none.bad("new: guard", x -> x.guard(0, 0, 255, false));
        none.bad("new: shut", x -> x.shut(0, true));
        none.bad("new: back", x -> x.back(0));
        none.bad("new: wake", x -> x.wake(0, 1));
        none.bad("new: ask a thing", x -> x.ask(0, 0, 0, 0, 0, 0));
        none.bad("new: ask a promise", x -> x.ask(0, 1, 0, 0, 0, 0));
        none.bad("new: when", x -> x.when(0, 0, 0));
        none.bad("new: state", x -> x.state(0, 0, 0));
        for (int what = 0; what <= 7; what++) {
            int w = what;
            none.bad("new: about " + w, x -> x.about(0, w));
            none.bad("new: promise " + w, x -> x.promise(0, w));
        }
        for (int a = 0; a < 4; a++) {
            for (int b = 0; b < 4; b++) {
                int from = a;
                int to = b;
                none.due("new: again", a == b ? BAD : STATE, x -> x.again(from, to));
            }
        }
    }

    private static void newHasAllWires() {
        for (int wire = 0; wire < 16; wire++) {
            PromiseWire x = new PromiseWire();
            int from = wire / 4;
            int to = wire % 4;
            x.thing(to, 0, 5);
            x.ask(from, 0, 0, 2, 1, 0);
            for (int other = 0; other < 16; other++) {
                check.due("the letter is on wire " + wire, x.wire(other / 4, other % 4),
                    other == wire ? 1 : 0);
            }
            check.due("delivered by wire " + wire, x.deliver(from, to), 0);
            check.due("heard by wire " + wire, x.about(0, 2), 6);
            check.due("answered by wire", x.deliver(to, from), from == to ? NONE : 1);
            check.due("the asker knows", x.state(0, from, 1), 6);
        }
    }

    private static void objectsShareNothing() {
        PromiseWire x = new PromiseWire();
        PromiseWire y = new PromiseWire();
        x.thing(0, 1, 5);
        x.ask(0, 0, 0, 2, 1, 0);
        x.flow(100);
        x.when(0, 0, 0);
        x.cut(0, 1);
        for (int what = 0; what <= 8; what++) {
            check.due("the other: count(" + what + ")", y.count(what), 0);
        }
        check.due("the other: purses()", y.purses(), 0);
        check.due("the other: trace()", y.trace(), 0);
        check.due("the other: its wire", y.again(0, 1), STATE);
        check.due("the other: its first thing", y.thing(0, 0, 0), 0);
    }

    // ---- 2: thing

    private static void thingRefused() {
        Refusals few = new Refusals(check, Edges::oneOfEach);
        for (int house : Edges.outside(3)) {
            few.bad("thing in house " + house, x -> x.thing(house, 0, 0));
        }
        for (int kind : new int[] {-1, 3, 4, 7, MIN, MAX}) {
            few.bad("thing of kind " + kind, x -> x.thing(0, kind, 1));
        }
        for (int n : new int[] {-1, -20, MIN}) {
            few.bad("a purse with " + n, x -> x.thing(0, 1, n));
        }
        for (int n : new int[] {0, 21, -1, MIN, MAX}) {
            few.bad("a joiner with " + n, x -> x.thing(0, 5, n));
            few.bad("a sleeper with " + n, x -> x.thing(0, 6, n));
        }
    }

    private static void thingNumberBounds() {
        int[][] good = {{0, 0, MIN}, {3, 0, MAX}, {0, 0, 0}, {1, 1, 0}, {2, 1, MAX}, {0, 2, MIN},
            {3, 2, MAX}, {2, 2, 0}, {0, 5, 1}, {3, 5, 20}, {0, 6, 1}, {3, 6, 20}};
        PromiseWire x = new PromiseWire();
        for (int i = 0; i < good.length; i++) {
            check.due("good thing " + i, x.thing(good[i][0], good[i][1], good[i][2]), i);
            check.due("its house " + i, x.about(i, 0), good[i][0]);
            check.due("its kind " + i, x.about(i, 1), good[i][1]);
            check.due("its number " + i, x.about(i, 2), good[i][2]);
        }
    }

    private static void thingCountsOn() {
        PromiseWire x = new PromiseWire();
        check.due("the first", x.thing(0, 0, 0), 0);
        check.due("refused", x.thing(0, 3, 0), BAD);
        check.due("no number is used up", x.guard(0, 0, 0, true), 1);
        check.due("refused", x.guard(0, 2, 0, true), BAD);
        check.due("guards count with the others", x.thing(0, 2, 0), 2);
        x.ask(0, 0, 2, 5, 0, 0);
        x.flow(100);
        check.due("made things, too", x.state(0, 0, 1), 3);
        check.due("and on", x.thing(0, 0, 0), 4);
    }

    /** "THINGS (40 at most)": the fortieth is there, the next is FULL, for thing() and guard(). */
    private static void placesTaken() {
        for (int last = 0; last < 3; last++) {
            PromiseWire x = new PromiseWire();
            for (int i = 0; i < 39; i++) {
                check.due("thing", x.thing(i % 4, i % 3, i), i);
            }
            int guarded = 38;
            check.due("the fortieth", last == 0 ? x.thing(3, 6, 20)
                : x.guard(3, guarded, 255, last == 2), 39);
            check.due("count", x.count(0), 40);
            check.due("it is whole", x.about(39, 0), 3);
            check.due("it is whole", x.about(39, 3), last == 0 ? NONE : guarded);
        }
        Refusals full = new Refusals(check, Edges::fortyThings);
        full.full("thing when full", x -> x.thing(0, 0, 0));
        full.full("purse when full", x -> x.thing(3, 1, MAX));
        full.full("guard when full", x -> x.guard(0, 39, 255, false));
        full.full("switch when full", x -> x.guard(3, 0, 0, true));
        full.bad("BAD before FULL: house", x -> x.thing(4, 0, 0));
        full.bad("BAD before FULL: kind", x -> x.thing(0, 3, 0));
        full.bad("BAD before FULL: n", x -> x.thing(0, 1, -1));
        full.bad("BAD before FULL: guard's house", x -> x.guard(-1, 0, 0, true));
        full.bad("BAD before FULL: guard's thing", x -> x.guard(0, 40, 0, true));
        full.bad("BAD before FULL: guard's acts", x -> x.guard(0, 0, 256, true));
    }

    // ---- 3: guard

    private static void guardRefused() {
        Refusals few = new Refusals(check, Edges::oneOfEach);
        for (boolean taken : new boolean[] {false, true}) {
            for (int house : Edges.outside(3)) {
                few.bad("guard in house " + house, x -> x.guard(house, 0, 255, taken));
            }
            for (int thing : Edges.outside(6)) {
                few.bad("guard of thing " + thing, x -> x.guard(0, thing, 255, taken));
            }
            for (int acts : new int[] {-1, 256, 257, 511, MIN, MAX}) {
                few.bad("guard with acts " + acts, x -> x.guard(0, 0, acts, taken));
            }
        }
    }

    private static void guardBounds() {
        PromiseWire x = new PromiseWire();
        Edges.oneOfEach(x);
        int[] acts = {0, 1, 128, 255, 127, 254, 16};
        for (int kind = 0; kind <= 6; kind++) {
            int guard = x.guard(kind % 4, kind, acts[kind], kind % 2 == 1);
            check.due("guard of kind " + kind, guard, 7 + kind);
            int[] due = {kind % 4, kind % 2 == 1 ? 4 : 3, 0, kind, acts[kind], 0, 0, 0};
            for (int what = 0; what <= 7; what++) {
                check.due("about guard of " + kind + ", " + what, x.about(guard, what), due[what]);
            }
        }
        check.due("it guards no other than before", x.about(3, 3), 0);
    }

    // ---- 4: shut

    private static void shutRefused() {
        Refusals few = new Refusals(check, Edges::oneOfEach);
        for (boolean is : new boolean[] {false, true}) {
            for (int thing : Edges.outside(6)) {
                few.bad("shut " + thing, x -> x.shut(thing, is));
            }
            for (int kind : new int[] {0, 1, 2, 5, 6}) {
                few.bad("shut of kind " + kind, x -> x.shut(kind, is));
            }
        }
    }

    private static void shutTellsWhatWas() {
        for (int guard = 3; guard <= 4; guard++) {
            PromiseWire x = new PromiseWire();
            Edges.oneOfEach(x);
            boolean[] is = {false, true, true, false, false, true};
            int was = 0;
            for (boolean now : is) {
                check.due("shut: what it was", x.shut(guard, now), was);
                was = now ? 1 : 0;
                check.due("shut: what it is", x.about(guard, 5), was);
                check.due("the other guard is not", x.about(7 - guard, 5), 0);
                check.due("not taken back", x.about(guard, 6), 0);
            }
        }
        PromiseWire x = new PromiseWire();
        Edges.oneOfEach(x);
        x.back(4);
        check.due("a switch taken back is shut, too", x.shut(4, true), 0);
        check.due("it is", x.shut(4, false), 1);
    }

    // ---- 5: back

    private static void backRefused() {
        Refusals few = new Refusals(check, Edges::oneOfEach);
        for (int thing : Edges.outside(6)) {
            few.bad("back of " + thing, x -> x.back(thing));
        }
        for (int kind : new int[] {0, 1, 2, 3, 5, 6}) {
            few.bad("back of kind " + kind, x -> x.back(kind));
        }
    }

    private static void backForEver() {
        PromiseWire x = new PromiseWire();
        Edges.oneOfEach(x);
        x.guard(0, 4, 255, true);
        check.due("back", x.back(4), 1);
        check.due("back: it was", x.back(4), 0);
        check.due("back: still", x.back(4), 0);
        check.due("about 6", x.about(4, 6), 1);
        check.due("it is not shut", x.about(4, 5), 0);
        check.due("another switch is not taken back", x.about(7, 6), 0);
        x.shut(4, true);
        x.shut(4, false);
        check.due("for ever", x.about(4, 6), 1);
        check.due("another switch", x.back(7), 1);
    }

    // ---- 6: wake

    private static void holdOneEach(PromiseWire x) {
        Edges.oneOfEach(x);
        x.guard(0, 6, 255, false);
        x.ask(0, 0, 5, 6, 3, 0);
        x.ask(0, 0, 6, 6, 4, 0);
        x.flow(100);
    }

    private static void wakeRefused() {
        Refusals held = new Refusals(check, ThingEdgesTest::holdOneEach);
        for (int thing : Edges.outside(7)) {
            held.bad("wake " + thing, x -> x.wake(thing, 1));
        }
        for (int kind : new int[] {0, 1, 2, 3, 4, 5}) {
            held.bad("wake of kind " + kind, x -> x.wake(kind, 1));
        }
        held.bad("wake a sleeper's guard", x -> x.wake(7, 1));
    }

    private static void wakeOfNone() {
        Refusals none = new Refusals(check, Edges::oneOfEach);
        none.due("wake of none", 0, x -> x.wake(6, 5));
        PromiseWire x = new PromiseWire();
        holdOneEach(x);
        check.due("wake of one", x.wake(6, 5), 1);
        check.due("none is left", x.wake(6, 6), 0);
        check.due("what it answered stays", x.state(1, 2, 1), 5);
    }

    private static void wakeAnyNumber() {
        for (int n : new int[] {MIN, -1, 0, 1, 21, MAX}) {
            PromiseWire x = new PromiseWire();
            holdOneEach(x);
            check.due("wake", x.wake(6, n), 1);
            check.due("it is a number", x.state(1, 2, 0), PromiseWire.NUMBER);
            check.due("it is n", x.state(1, 2, 1), n);
            check.due("the sleeper's own stays", x.about(6, 2), 1);
            check.due("the joiner sleeps on", x.about(5, 7), 1);
        }
    }

    private static void wakeMoreThanItsNumber() {
        PromiseWire x = new PromiseWire();
        x.thing(1, 6, 20);
        x.thing(1, 6, 1);
        for (int i = 0; i < 50; i++) {
            x.ask(1, 0, 0, 6, 1, 0);
            x.ask(1, 0, 1, 6, 1, 0);
        }
        x.flow(100);
        check.due("held", x.count(6), 100);
        check.due("held by the first", x.about(0, 7), 50);
        check.due("all are woken", x.wake(1, 9), 50);
        check.due("none is held", x.about(1, 7), 0);
        check.due("the first has its own", x.count(6), 50);
        check.due("and answers them", x.wake(0, 8), 50);
        check.due("the first asked", x.state(0, 1, 1), 8);
        check.due("the last asked", x.state(99, 1, 1), 9);
        check.due("none is open", x.count(2), 0);
    }

    /** In the order in which they came to the sleeper, which is not that of the asks. */
    private static void wakeInOrder() {
        PromiseWire x = new PromiseWire();
        x.thing(1, 6, 1);
        x.guard(0, 0, 255, false);
        int second = x.ask(0, 0, 1, 6, 1, 0);
        int third = x.ask(0, 0, 1, 6, 1, 0);
        int first = x.ask(2, 0, 0, 6, 1, 0);
        int last = x.ask(2, 0, 0, 6, 1, 0);
        x.deliver(2, 1);
        x.flow(4);
        x.deliver(2, 1);
        check.due("wake", x.wake(0, 3), 4);
        check.due("to HOME 0: the second", x.letter(1, 0, 0, 1), second);
        check.due("to HOME 0: the third", x.letter(1, 0, 1, 1), third);
        check.due("to asker 2: the first", x.letter(1, 2, 0, 1), first);
        check.due("to asker 2: the last", x.letter(1, 2, 1, 1), last);
        check.due("HOME 0 does not know yet", x.state(second, 0, 0), PromiseWire.OPEN);
        check.due("HOME 1 does", x.state(first, 1, 1), 3);
    }

    private static void wakeOneSleeperAlone() {
        PromiseWire x = new PromiseWire();
        x.thing(0, 6, 1);
        x.thing(0, 6, 1);
        x.ask(0, 0, 0, 6, 1, 0);
        x.ask(0, 0, 1, 6, 1, 0);
        x.flow(100);
        check.due("wake", x.wake(1, 2), 1);
        check.due("the other's stays open", x.state(0, 0, 0), PromiseWire.OPEN);
        check.due("the other's is held", x.promise(0, 4), 1);
    }

    private static void wakeSettlesAllBeforeAnyIsDone() {
        PromiseWire x = new PromiseWire();
        x.thing(1, 6, 1);
        x.guard(2, 0, 255, false);
        int atHome = x.ask(2, 0, 0, 6, 1, 0);
        x.flow(100);
        int away = x.ask(2, 0, 1, 6, 1, 0);
        x.flow(100);
        check.due("wake", x.wake(0, 3), 2);
        check.due("the letter to HOME goes first", x.letter(1, 2, 0, 1), away);
        check.due("what is done follows", x.letter(1, 2, 1, 1), atHome);
    }

    // ---- 7: about

    private static void aboutRefused() {
        Refusals few = new Refusals(check, Edges::oneOfEach);
        for (int thing : Edges.outside(6)) {
            few.bad("about " + thing, x -> x.about(thing, 0));
            few.bad("about " + thing, x -> x.about(thing, 7));
        }
        for (int what : Edges.outside(7)) {
            few.bad("about what " + what, x -> x.about(0, what));
            few.bad("about what " + what, x -> x.about(6, what));
        }
        PromiseWire x = new PromiseWire();
        Edges.fortyThings(x);
        check.due("the last", x.about(39, 2), 39);
        check.due("behind the last", x.about(40, 2), BAD);
    }

    private static void aboutEachKind() {
        PromiseWire x = new PromiseWire();
        holdOneEach(x);
        x.shut(3, true);
        x.back(4);
        int[][] due = {{0, 0, 7, NONE, 0, 0, 0, 0}, {1, 1, 7, NONE, 0, 0, 0, 0},
            {2, 2, 7, NONE, 0, 0, 0, 0}, {3, 3, 0, 0, 255, 1, 0, 0}, {0, 4, 0, 1, 255, 0, 1, 0},
            {1, 5, 2, NONE, 0, 0, 0, 1}, {2, 6, 1, NONE, 0, 0, 0, 1}, {0, 3, 0, 6, 255, 0, 0, 0}};
        for (int t = 0; t < due.length; t++) {
            for (int what = 0; what <= 7; what++) {
                check.due("about(" + t + ", " + what + ")", x.about(t, what), due[t][what]);
            }
        }
    }
}
