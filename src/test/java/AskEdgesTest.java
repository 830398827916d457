/** Promises 8 to 11 at their edges, and what the terms say of promises, of waiting and of WHENS. */
public final class AskEdgesTest {
    private static final int BAD = PromiseWire.BAD, STATE = PromiseWire.STATE,
        FULL = PromiseWire.FULL, NONE = PromiseWire.NONE;
    private static final int OPEN = PromiseWire.OPEN, NUMBER = PromiseWire.NUMBER,
        THING = PromiseWire.THING, BROKEN = PromiseWire.BROKEN;
    private static final int MIN = Integer.MIN_VALUE, MAX = Integer.MAX_VALUE;
    private static final Check check = new Check("AskEdgesTest");

    public static void main(String[] args) {
        askRefused();
        askOtherOfMove();
        askBounds();
        askState();
        askStateOfDone();
        askPlaces();
        askFullForEver();
        homeOfAPromisesPromise();
        itStays();
        sentOnToTheFirstAndTheLastThing();
        numberIsNoThing();
        eachReasonIsHandedOn();
        waitersInOrder();
        waitersBeforeTheAnswerBeforeWhens();
        waitersBeforeWhens();
        waitersOfWaiters();
        waiterLostAtOnce();
        waitsAtHomeThoughTheAskerKnowsNot();
        whenRefused();
        whenState();
        whenPlaces();
        whenInEachHouse();
        whenInOneHouse();
        whenAtOnce();
        whenNumbers();
        whenThings();
        whenReasons();
        whenToEachKind();
        stateRefused();
        stateOfEach();
        promiseRefused();
        promiseLetters();
        promisePlaces();
        promiseWaiting();
        check.end();
    }

    // ---- 8: ask

    /** Seven things in four houses, and promise 0 with ASKER 0 and HOME 1. */
    private static void oneAsked(PromiseWire x) {
        Edges.oneOfEach(x);
        x.ask(0, 0, 1, 2, 1, 0);
    }

    private static void askRefused() {
        Refusals one = new Refusals(check, AskEdgesTest::oneAsked);
        for (int house : Edges.outside(3)) {
            one.bad("house " + house + " asks a thing", x -> x.ask(house, 0, 0, 0, 0, 0));
            one.bad("house " + house + " asks a promise", x -> x.ask(house, 1, 0, 0, 0, 0));
        }
        for (int of : Edges.outside(1)) {
            one.bad("of " + of, x -> x.ask(0, of, 0, 0, 0, 0));
        }
        for (int to : Edges.outside(6)) {
            one.bad("thing " + to + " is asked", x -> x.ask(0, 0, to, 0, 0, 0));
        }
        for (int to : Edges.outside(0)) {
            one.bad("promise " + to + " is asked", x -> x.ask(0, 1, to, 0, 0, 0));
        }
        one.bad("a thing's number is no promise's", x -> x.ask(0, 1, 6, 0, 0, 0));
        for (int act : Edges.outside(7)) {
            one.bad("act " + act + " of a thing", x -> x.ask(0, 0, 0, act, 0, 0));
            one.bad("act " + act + " of a promise", x -> x.ask(0, 1, 0, act, 0, 0));
        }
    }

    private static void askOtherOfMove() {
        Refusals one = new Refusals(check, AskEdgesTest::oneAsked);
        for (int other : Edges.outside(6)) {
            one.bad("MOVE to " + other, x -> x.ask(0, 0, 1, 4, 0, other));
            one.bad("a cell: MOVE to " + other, x -> x.ask(0, 0, 0, 4, 0, other));
            one.bad("a promise: MOVE to " + other, x -> x.ask(0, 1, 0, 4, 0, other));
            for (int act : new int[] {0, 1, 2, 3, 5, 6, 7}) {
                PromiseWire x = new PromiseWire();
                oneAsked(x);
                check.due("act " + act + ": other is not looked at",
                    x.ask(0, 0, 0, act, 0, other), 1);
                check.due("of a promise, too", x.ask(0, 1, 0, act, 0, other), 2);
            }
        }
        for (int other = 0; other <= 6; other++) {
            PromiseWire x = new PromiseWire();
            oneAsked(x);
            check.due("MOVE to a thing of any kind is asked", x.ask(0, 0, 1, 4, 0, other), 1);
            check.due("of a promise, too", x.ask(0, 1, 0, 4, 0, other), 2);
        }
    }

    private static void askBounds() {
        PromiseWire x = new PromiseWire();
        Edges.oneOfEach(x);
        int[] ns = {MIN, -1, 0, 1, 21, 255, MAX, 7};
        for (int act = 0; act <= 7; act++) {
            int house = act % 4;
            check.due("act " + act, x.ask(house, 0, 6, act, ns[act], 1), act);
            int i = x.wire(house, 2) - 1;
            check.due("a message", x.letter(house, 2, i, 0), 0);
            check.due("its promise", x.letter(house, 2, i, 1), act);
            check.due("its act", x.letter(house, 2, i, 2), act);
            check.due("its n", x.letter(house, 2, i, 3), ns[act]);
            check.due("its thing", x.letter(house, 2, i, 4), 6);
            check.due("its asker", x.promise(act, 0), house);
            check.due("its home", x.promise(act, 1), 2);
        }
        check.due("none has heard", x.count(8), 0);
    }

    private static void askState() {
        for (int asker = 0; asker < 4; asker++) {
            for (int home = 0; home < 4; home++) {
                int from = asker;
                int to = home;
                Scene asked = x -> {
                    x.thing(to, 6, 1);
                    x.ask(from, 0, 0, 6, 0, 0);
                };
                Refusals one = new Refusals(check, asked);
                for (int house = 0; house < 4; house++) {
                    int h = house;
                    if (h == from || h == to) {
                        check.due("asker or home", asked.made().ask(h, 1, 0, 0, 0, 0), 1);
                        check.due("asker or home", asked.made().state(0, h, 0), OPEN);
                    } else {
                        one.state("neither asker nor home", x -> x.ask(h, 1, 0, 0, 0, 0));
                        one.bad("BAD before STATE: act", x -> x.ask(h, 1, 0, 8, 0, 0));
                        one.bad("BAD before STATE: other", x -> x.ask(h, 1, 0, 4, 0, 1));
                        one.state("MOVE", x -> x.ask(h, 1, 0, 4, 0, 0));
                    }
                    check.due("any house asks a thing", asked.made().ask(h, 0, 0, 0, 0, 0), 1);
                }
            }
        }
    }

    private static void askStateOfDone() {
        Refusals done = new Refusals(check, x -> {
            oneAsked(x);
            x.flow(100);
        });
        done.state("neither, and it is done", x -> x.ask(2, 1, 0, 0, 0, 0));
        done.state("neither, and it is done", x -> x.ask(3, 1, 0, 0, 0, 0));
    }

    private static void hundredAsked(PromiseWire x) {
        x.thing(1, 0, 5);
        x.thing(2, 1, 5);
        for (int p = 0; p < 100; p++) {
            x.ask(0, p == 99 ? 1 : 0, 0, 2, 1, 0);
        }
    }

    /** "(100 ever)": the hundredth is there, the next is FULL; BAD and STATE come before that. */
    private static void askPlaces() {
        PromiseWire x = new PromiseWire();
        hundredAsked(x);
        check.due("a hundred", x.count(1), 100);
        check.due("the last is whole", x.promise(99, 1), 1);
        check.due("the last is under way", x.letter(0, 1, 99, 1), 99);
        check.due("no letter behind it", x.letter(0, 1, 100, 1), NONE);
        Refusals full = new Refusals(check, AskEdgesTest::hundredAsked);
        full.full("a thing when full", y -> y.ask(0, 0, 0, 0, 0, 0));
        full.full("a thing when full, from its house", y -> y.ask(1, 0, 0, 0, 0, 0));
        full.full("a promise when full", y -> y.ask(0, 1, 99, 0, 0, 0));
        full.full("MOVE when full", y -> y.ask(2, 0, 1, 4, 1, 1));
        full.state("STATE before FULL", y -> y.ask(2, 1, 99, 0, 0, 0));
        full.bad("BAD before STATE and FULL", y -> y.ask(2, 1, 99, 8, 0, 0));
        full.bad("BAD before FULL: house", y -> y.ask(4, 0, 0, 0, 0, 0));
        full.bad("BAD before FULL: of", y -> y.ask(0, 2, 0, 0, 0, 0));
        full.bad("BAD before FULL: thing", y -> y.ask(0, 0, 2, 0, 0, 0));
        full.bad("BAD before FULL: promise", y -> y.ask(0, 1, 100, 0, 0, 0));
        full.bad("BAD before FULL: act", y -> y.ask(0, 0, 0, -1, 0, 0));
        full.bad("BAD before FULL: other", y -> y.ask(0, 0, 0, 4, 0, 2));
    }

    private static void askFullForEver() {
        Scene allDone = x -> {
            hundredAsked(x);
            x.flow(100);
            x.flow(100);
        };
        PromiseWire x = allDone.made();
        check.due("none is open", x.count(2), 0);
        check.due("none is under way", x.count(3), 0);
        check.due("full for ever", x.ask(0, 0, 0, 0, 0, 0), FULL);
        check.due("all were heard but the last", x.about(0, 2), 5 + 99);
        check.due("the last is refused: a NUMBER hears nothing", x.state(99, 0, 1), Talk.REFUSED);
    }

    // ---- promises: ASKER, HOME, what stays

    private static void homeOfAPromisesPromise() {
        PromiseWire x = new PromiseWire();
        x.thing(2, 0, 4);
        x.guard(1, 0, 255, false);
        int who = x.ask(0, 0, 1, 7, 0, 0);
        int ofAsker = x.ask(0, 1, who, 7, 0, 0);
        int ofHome = x.ask(1, 1, ofAsker, 7, 0, 0);
        check.due("asker", x.promise(ofHome, 0), 1);
        check.due("the guard's house, not the cell's", x.promise(who, 1), 1);
        check.due("that one's HOME", x.promise(ofAsker, 1), 1);
        check.due("and on", x.promise(ofHome, 1), 1);
        x.flow(100);
        int later = x.ask(0, 1, who, 0, 0, 0);
        check.due("HOME stays, though it is done by a thing of 2", x.promise(later, 1), 1);
        x.flow(100);
        check.due("house 2 is neither", x.state(later, 2, 0), STATE);
        check.due("asker", x.state(later, 0, 1), 4);
        check.due("home", x.state(later, 1, 1), 4);
        check.due("done by the thing itself", x.state(ofHome, 1, 1), 0);
    }

    /** "that stays": what a house knows is not changed by letters, cuts or wires mended. */
    private static void itStays() {
        PromiseWire x = new PromiseWire();
        x.thing(1, 0, 5);
        int lost = x.ask(0, 0, 0, 0, 0, 0);
        int kept = x.ask(0, 0, 0, 0, 0, 0);
        x.deliver(0, 1);
        x.cut(0, 1);
        x.again(0, 1);
        x.ask(0, 0, 0, 1, 77, 0);
        x.flow(100);
        x.cut(1, 0);
        check.due("home: a number", x.state(lost, 1, 0), NUMBER);
        check.due("home: 5", x.state(lost, 1, 1), 5);
        check.due("asker: broken", x.state(lost, 0, 0), BROKEN);
        check.due("asker: CUT", x.state(lost, 0, 1), Talk.CUT);
        check.due("home: broken", x.state(kept, 1, 0), BROKEN);
        check.due("home: CUT", x.state(kept, 1, 1), Talk.CUT);
        check.due("the cell was SET once", x.about(0, 2), 77);
    }

    private static void sentOnToTheFirstAndTheLastThing() {
        PromiseWire x = new PromiseWire();
        Edges.fortyThings(x);
        for (int thing : new int[] {0, 39}) {
            int home = thing % 4;
            int who = x.ask(0, 0, thing, 7, 0, 0);
            int early = x.ask(0, 1, who, 0, 0, 0);
            x.flow(100);
            int late = x.ask(0, 1, who, 0, 0, 0);
            x.flow(100);
            check.due("the thing itself", x.state(who, home, 0), THING);
            check.due("its number", x.state(who, home, 1), thing);
            check.due("waited for it", x.state(early, 0, 1), thing);
            check.due("came behind it", x.state(late, 0, 1), thing);
            check.due("a NUMBER", x.state(late, 0, 0), NUMBER);
        }
    }

    /** "of one by a NUMBER it is BROKEN: REFUSED", also if there is a THING of that number. */
    private static void numberIsNoThing() {
        for (int n : new int[] {0, 1, 39, -1, MIN, MAX}) {
            PromiseWire x = new PromiseWire();
            Edges.fortyThings(x);
            x.ask(3, 0, 39, 1, n, 0);
            int get = x.ask(3, 0, 39, 0, 0, 0);
            int early = x.ask(3, 1, get, 0, 0, 0);
            x.flow(100);
            int turns = x.count(8);
            int late = x.ask(3, 1, get, 7, 0, 0);
            x.flow(100);
            check.due("the number", x.state(get, 3, 1), n);
            check.due("waited: broken", x.state(early, 3, 0), BROKEN);
            check.due("waited: REFUSED", x.state(early, 3, 1), Talk.REFUSED);
            check.due("late: broken", x.state(late, 3, 0), BROKEN);
            check.due("late: REFUSED", x.state(late, 3, 1), Talk.REFUSED);
            check.due("no turn", x.count(8), turns);
        }
    }

    /** "of a BROKEN one by its REASON": each of the five, for what waited and for what came late. */
    private static void eachReasonIsHandedOn() {
        for (int reason = 1; reason <= 5; reason++) {
            PromiseWire x = new PromiseWire();
            Edges.breakers(x);
            int p = x.ask(0, 0, reason, Edges.ACT_THAT_BREAKS[reason], 1, 0);
            int early = x.ask(0, 1, p, 0, 0, 0);
            int earlier = x.ask(1, 1, early, 0, 0, 0);
            x.flow(100);
            int late = x.ask(1, 1, earlier, 0, 0, 0);
            x.flow(100);
            for (int q : new int[] {p, early, earlier, late}) {
                check.due("home: broken", x.state(q, 1, 0), BROKEN);
                check.due("home: by reason " + reason, x.state(q, 1, 1), reason);
            }
            check.due("asker: by reason " + reason, x.state(p, 0, 1), reason);
            check.due("asker: by reason " + reason, x.state(early, 0, 1), reason);
        }
    }

    // ---- what is DONE, in its order

    private static void waitersInOrder() {
        PromiseWire x = new PromiseWire();
        x.thing(2, 0, 0);
        x.guard(1, 0, 255, false);
        int who = x.ask(0, 0, 1, 7, 0, 0);
        int[] waiters = new int[60];
        for (int i = 0; i < waiters.length; i++) {
            waiters[i] = x.ask(i % 2, 1, who, 2, 1, 0);
        }
        x.deliver(0, 1);
        for (int i = 0; i < waiters.length; i++) {
            x.deliver(i % 2, 1);
        }
        check.due("all wait", x.promise(who, 2), 60);
        x.deliver(1, 2);
        x.deliver(2, 1);
        check.due("none waits", x.promise(who, 2), 0);
        check.due("all are sent on", x.wire(1, 2), 60);
        for (int i = 0; i < waiters.length; i++) {
            check.due("in order", x.letter(1, 2, i, 1), waiters[i]);
        }
    }

    private static void waitersBeforeTheAnswerBeforeWhens() {
        PromiseWire x = new PromiseWire();
        x.thing(0, 0, 0);
        x.guard(1, 0, 255, false);
        x.thing(1, 0, 0);
        int who = x.ask(0, 0, 1, 7, 0, 0);
        int waiter = x.ask(0, 1, who, 0, 0, 0);
        x.when(1, who, 2);
        x.deliver(0, 1);
        x.deliver(0, 1);
        x.deliver(1, 0);
        check.due("to be done as the answer comes to HOME", x.deliver(0, 1), 1);
        check.due("the waiter first", x.letter(1, 0, 0, 1), waiter);
        check.due("it is a message", x.letter(1, 0, 0, 0), 0);
        check.due("then the answer", x.letter(1, 0, 1, 1), who);
        check.due("it is an answer", x.letter(1, 0, 1, 0), 1);
        check.due("and the WHEN of HOME", x.letter(1, 1, 0, 0), 2);
    }

    /** A waiter that goes on within HOME is ahead of the WHENS of HOME. */
    private static void waitersBeforeWhens() {
        PromiseWire x = new PromiseWire();
        x.thing(1, 0, 0);
        x.guard(2, 0, 255, false);
        x.guard(1, 1, 255, false);
        x.thing(1, 0, 0);
        int who = x.ask(1, 0, 2, 7, 0, 0);
        x.when(1, who, 3);
        int waiter = x.ask(1, 1, who, 2, 9, 0);
        x.deliver(1, 1);
        x.deliver(1, 1);
        check.due("it waits", x.promise(who, 2), 1);
        x.deliver(1, 2);
        x.deliver(2, 1);
        check.due("both are posted", x.wire(1, 1), 2);
        check.due("the waiter first", x.letter(1, 1, 0, 1), waiter);
        check.due("then the WHEN", x.letter(1, 1, 1, 0), 2);
    }

    /** "one by one, as they came": what is settled as one is done is done behind the others. */
    private static void waitersOfWaiters() {
        PromiseWire x = new PromiseWire();
        x.thing(1, 6, 1);
        int join = x.ask(1, 0, 0, 6, 0, 0);
        int first = x.ask(1, 1, join, 0, 0, 0);
        int ofFirst = x.ask(1, 1, first, 0, 0, 0);
        int second = x.ask(1, 1, join, 0, 0, 0);
        x.flow(100);
        int[] order = {join, first, second, ofFirst};
        for (int i = 3; i >= 0; i--) {
            x.when(1, order[i], x.thing(1, 0, 0));
        }
        check.due("wake", x.wake(0, 4), 1);
        check.due("four WHENS", x.wire(1, 1), 4);
        for (int i = 0; i < 4; i++) {
            check.due("as they came", x.letter(1, 1, i, 4), 4 - i);
            check.due("what it is", x.letter(1, 1, i, 3), i == 0 ? 4 : -Talk.REFUSED);
        }
    }

    private static void waiterLostAtOnce() {
        PromiseWire x = new PromiseWire();
        x.thing(2, 0, 0);
        x.thing(1, 0, 0);
        x.guard(1, 0, 255, false);
        int who = x.ask(0, 0, 2, 7, 0, 0);
        int waiter = x.ask(0, 1, who, 0, 0, 0);
        int ofWaiter = x.ask(0, 1, waiter, 0, 0, 0);
        x.flow(4);
        check.due("the answer is on its way to HOME", x.wire(2, 1), 1);
        x.deliver(2, 1);
        x.cut(1, 2);
        check.due("the waiter is lost", x.state(waiter, 1, 1), Talk.CUT);
        check.due("what waits for it, too", x.state(ofWaiter, 1, 1), Talk.CUT);
        int late = x.ask(0, 1, who, 0, 0, 0);
        x.deliver(0, 1);
        check.due("sent on by a wire that is cut", x.state(late, 1, 1), Talk.CUT);
        check.due("its letters: to HOME, sent on, the answer", x.promise(late, 3), 3);
    }

    /** A PROMISE done at HOME is no longer OPEN there, though its ASKER does not know yet. */
    private static void waitsAtHomeThoughTheAskerKnowsNot() {
        PromiseWire x = new PromiseWire();
        x.thing(1, 0, 3);
        int who = x.ask(0, 0, 0, 7, 0, 0);
        x.deliver(0, 1);
        check.due("the asker does not know", x.state(who, 0, 0), OPEN);
        int fromAsker = x.ask(0, 1, who, 0, 0, 0);
        x.deliver(0, 1);
        check.due("it does not wait", x.promise(fromAsker, 4), 3);
        check.due("it is on its way within HOME", x.letter(1, 1, 0, 1), fromAsker);
        x.deliver(1, 1);
        check.due("heard", x.state(fromAsker, 1, 1), 3);
    }

    // ---- 9: when

    private static void whenRefused() {
        Refusals one = new Refusals(check, AskEdgesTest::oneAsked);
        for (int house : Edges.outside(3)) {
            one.bad("when in house " + house, x -> x.when(house, 0, 0));
        }
        for (int promise : Edges.outside(0)) {
            one.bad("when of promise " + promise, x -> x.when(0, promise, 0));
        }
        for (int thing : Edges.outside(6)) {
            one.bad("when for thing " + thing, x -> x.when(0, 0, thing));
        }
        int[] houses = {0, 1, 2, 3, 0, 1, 2};
        for (int thing = 0; thing <= 6; thing++) {
            for (int house = 0; house < 4; house++) {
                int t = thing;
                int h = house;
                if (houses[t] != h) {
                    one.bad("a thing of another house", x -> x.when(h, 0, t));
                }
            }
        }
    }

    private static void whenState() {
        Refusals open = new Refusals(check, AskEdgesTest::oneAsked);
        open.state("neither asker nor home: 2", x -> x.when(2, 0, 2));
        open.state("neither asker nor home: 3", x -> x.when(3, 0, 3));
        open.bad("BAD before STATE", x -> x.when(2, 0, 3));
        Refusals done = new Refusals(check, x -> {
            oneAsked(x);
            x.flow(100);
        });
        done.state("neither, and it is done", x -> x.when(2, 0, 6));
        done.bad("BAD before STATE", x -> x.when(3, 0, 6));
    }

    private static void fortyWhens(PromiseWire x) {
        x.thing(0, 0, 0);
        x.thing(1, 0, 5);
        x.thing(2, 0, 0);
        x.ask(0, 0, 1, 0, 0, 0);
        for (int i = 0; i < 40; i++) {
            x.when(i % 2, 0, i % 2);
        }
    }

    /** "WHENS (40 ever)": the fortieth is there and is posted, the next is FULL, for ever. */
    private static void whenPlaces() {
        PromiseWire x = new PromiseWire();
        x.thing(0, 0, 0);
        x.ask(0, 0, 0, 1, 2, 0);
        for (int i = 1; i <= 40; i++) {
            check.due("how many there were ever", x.when(0, 0, 0), i);
            check.due("count(4)", x.count(4), i);
        }
        x.flow(100);
        check.due("each was posted", x.count(8), 41);
        check.due("full for ever", x.when(0, 0, 0), FULL);
        check.due("forty ever", x.count(4), 40);
        Refusals full = new Refusals(check, AskEdgesTest::fortyWhens);
        full.full("asker, when full", y -> y.when(0, 0, 0));
        full.full("home, when full", y -> y.when(1, 0, 1));
        full.state("STATE before FULL", y -> y.when(2, 0, 2));
        full.bad("BAD before STATE and FULL", y -> y.when(2, 0, 0));
        full.bad("BAD before FULL: thing", y -> y.when(0, 0, 3));
        full.bad("BAD before FULL: promise", y -> y.when(0, 1, 0));
        full.bad("BAD before FULL: house", y -> y.when(-1, 0, 0));
    }

    private static void whenInEachHouse() {
        PromiseWire x = new PromiseWire();
        fortyWhens(x);
        check.due("none is posted as it is open", x.count(3), 1);
        x.deliver(0, 1);
        check.due("HOME's are posted", x.wire(1, 1), 20);
        check.due("the asker's are not", x.wire(0, 0), 0);
        x.deliver(1, 0);
        check.due("the asker's are posted", x.wire(0, 0), 20);
        check.due("HOME's are not posted anew", x.wire(1, 1), 20);
        x.flow(100);
        check.due("asker's thing", x.about(0, 2), 20 * 5);
        check.due("home's thing", x.about(1, 2), 5 + 20 * 5);
        check.due("no more", x.count(3), 0);
    }

    private static void whenInOneHouse() {
        PromiseWire x = new PromiseWire();
        x.thing(2, 0, 5);
        int p = x.ask(2, 0, 0, 0, 0, 0);
        x.when(2, p, 0);
        x.deliver(2, 2);
        check.due("asker and home are one: it is posted once", x.wire(2, 2), 1);
        x.flow(100);
        check.due("heard once", x.about(0, 2), 10);
    }

    private static void whenAtOnce() {
        PromiseWire x = new PromiseWire();
        x.thing(0, 0, 0);
        x.thing(1, 0, 5);
        int p = x.ask(0, 0, 1, 0, 0, 0);
        x.deliver(0, 1);
        check.due("the asker's waits", x.when(0, p, 0), 1);
        check.due("none is posted", x.wire(0, 0), 0);
        check.due("HOME's goes at once", x.when(1, p, 1), 2);
        check.due("it is posted", x.wire(1, 1), 1);
        x.deliver(1, 0);
        check.due("now the asker's is", x.wire(0, 0), 1);
        check.due("at once now", x.when(0, p, 0), 3);
        check.due("behind the first", x.wire(0, 0), 2);
        check.due("it is not heard yet", x.about(0, 2), 0);
        x.flow(100);
        check.due("each once", x.about(0, 2), 10);
    }

    private static void whenNumbers() {
        for (int n : new int[] {MIN, -1, 0, 1, MAX}) {
            PromiseWire x = new PromiseWire();
            x.thing(0, 0, n);
            x.thing(0, 0, MAX);
            int p = x.ask(0, 0, 0, 0, 0, 0);
            x.when(0, p, 1);
            x.deliver(0, 0);
            int[] due = {2, NONE, 2, n, 1, NONE};
            for (int what = 0; what <= 5; what++) {
                check.due("letter of a WHEN, " + what, x.letter(0, 0, 0, what), due[what]);
            }
            check.due("delivered", x.deliver(0, 0), 2);
            check.due("GIVE goes round", x.about(1, 2), MAX + n);
            check.due("no answer", x.count(3), 0);
        }
    }

    private static void whenThings() {
        for (int thing : new int[] {0, 4, 36}) {
            PromiseWire x = new PromiseWire();
            Edges.fortyThings(x);
            int p = x.ask(0, 0, thing, 7, 0, 0);
            x.when(0, p, 8);
            x.deliver(0, 0);
            check.due("the THING's number", x.letter(0, 0, 0, 3), thing);
            x.flow(100);
            check.due("given", x.about(8, 2), 8 + thing);
        }
    }

    private static void whenReasons() {
        for (int reason = 1; reason <= 5; reason++) {
            PromiseWire x = new PromiseWire();
            Edges.breakers(x);
            int p = x.ask(0, 0, reason, Edges.ACT_THAT_BREAKS[reason], 1, 0);
            x.when(0, p, 6);
            x.when(1, p, 7);
            x.deliver(0, 1);
            check.due("the REASON below 0, at HOME", x.letter(1, 1, 0, 3), -reason);
            x.flow(100);
            check.due("given in the asker's house", x.about(6, 2), -reason);
            check.due("given in HOME", x.about(7, 2), -reason);
            x.when(0, p, 6);
            check.due("at once, too", x.letter(0, 0, 0, 3), -reason);
        }
    }

    /** "GIVE of ..": to each kind; what it answers is told to nobody, and none is HELD. */
    private static void whenToEachKind() {
        long[] marks = {1, 11, 100, 1001, 11011, 100000, 1100000};
        int[] numbers = {16, 16, 7, 0, 0, 2, 1};
        int[] houses = {0, 1, 2, 3, 0, 1, 2};
        for (int kind = 0; kind <= 6; kind++) {
            PromiseWire x = new PromiseWire();
            Edges.oneOfEach(x);
            int house = houses[kind];
            x.thing(house, 0, 9);
            int p = x.ask(house, 0, 7, 0, 0, 0);
            x.flow(100);
            long before = x.trace();
            x.when(house, p, kind);
            x.flow(100);
            check.due("heard by kind " + kind, x.trace() - before, marks[kind]);
            check.due("its number, kind " + kind, x.about(kind, 2), numbers[kind]);
            check.due("none is held", x.count(6), 0);
            check.due("one promise", x.count(1), 1);
            check.due("none under way", x.count(3), 0);
        }
    }

    // ---- 10: state

    private static void stateRefused() {
        Refusals one = new Refusals(check, AskEdgesTest::oneAsked);
        for (int promise : Edges.outside(0)) {
            one.bad("state of " + promise, x -> x.state(promise, 0, 0));
        }
        for (int house : Edges.outside(3)) {
            one.bad("state in house " + house, x -> x.state(0, house, 0));
        }
        for (int what : Edges.outside(1)) {
            one.bad("state, what " + what, x -> x.state(0, 0, what));
            one.bad("BAD before STATE", x -> x.state(0, 2, what));
        }
        for (int what = 0; what <= 1; what++) {
            int w = what;
            one.state("house 2 is neither", x -> x.state(0, 2, w));
            one.state("house 3 is neither", x -> x.state(0, 3, w));
        }
        PromiseWire x = new PromiseWire();
        hundredAsked(x);
        check.due("the last", x.state(99, 0, 0), OPEN);
        check.due("behind the last", x.state(100, 0, 0), BAD);
    }

    private static void stateOfEach() {
        PromiseWire x = new PromiseWire();
        x.thing(1, 0, -7);
        int[] acts = {0, 7, 6};
        int[] hows = {NUMBER, THING, BROKEN};
        int[] values = {-7, 0, Talk.REFUSED};
        for (int i = 0; i < 3; i++) {
            int p = x.ask(0, 0, 0, acts[i], 0, 0);
            for (int house = 0; house <= 1; house++) {
                check.due("open", x.state(p, house, 0), OPEN);
                check.due("0 as it is open", x.state(p, house, 1), 0);
            }
            x.deliver(0, 1);
            check.due("at home", x.state(p, 1, 0), hows[i]);
            check.due("at home", x.state(p, 1, 1), values[i]);
            check.due("open for the asker", x.state(p, 0, 0), OPEN);
            check.due("0 for the asker", x.state(p, 0, 1), 0);
            x.deliver(1, 0);
            check.due("for the asker", x.state(p, 0, 0), hows[i]);
            check.due("for the asker", x.state(p, 0, 1), values[i]);
        }
    }

    // ---- 11: promise

    private static void promiseRefused() {
        Refusals one = new Refusals(check, AskEdgesTest::oneAsked);
        for (int promise : Edges.outside(0)) {
            one.bad("promise " + promise, x -> x.promise(promise, 0));
            one.bad("promise " + promise, x -> x.promise(promise, 4));
        }
        for (int what : Edges.outside(4)) {
            one.bad("promise, what " + what, x -> x.promise(0, what));
        }
        PromiseWire x = new PromiseWire();
        hundredAsked(x);
        check.due("the last", x.promise(99, 3), 1);
        check.due("behind the last", x.promise(100, 3), BAD);
    }

    /** "LETTERS that its message and its answer were so far": those of a WHEN are none of them. */
    private static void promiseLetters() {
        PromiseWire x = new PromiseWire();
        x.thing(2, 0, 0);
        x.guard(2, 0, 255, false);
        int p = x.ask(0, 0, 1, 7, 0, 0);
        x.when(2, p, 0);
        x.when(0, p, x.thing(0, 0, 0));
        int q = x.ask(0, 1, p, 0, 0, 0);
        check.due("asked", x.promise(p, 3), 1);
        x.deliver(0, 2);
        check.due("sent on within a house", x.promise(p, 3), 2);
        x.deliver(2, 2);
        check.due("the answer to the asker", x.promise(p, 3), 3);
        x.flow(100);
        check.due("no more", x.promise(p, 3), 3);
        check.due("to HOME, on to the thing, the answer", x.promise(q, 3), 3);
        int home = x.ask(2, 0, 0, 0, 0, 0);
        x.flow(100);
        check.due("within one house: its message alone", x.promise(home, 3), 1);
        x.cut(0, 2);
        int lost = x.ask(0, 0, 0, 0, 0, 0);
        check.due("lost at once: message, to HOME, to ASKER", x.promise(lost, 3), 3);
    }

    private static void promisePlaces() {
        PromiseWire x = new PromiseWire();
        x.thing(1, 6, 1);
        int p = x.ask(0, 0, 0, 6, 0, 0);
        int q = x.ask(0, 1, p, 0, 0, 0);
        check.due("a letter", x.promise(p, 4), 3);
        x.deliver(0, 1);
        check.due("held", x.promise(p, 4), 1);
        check.due("a letter still", x.promise(q, 4), 3);
        x.deliver(0, 1);
        check.due("waits", x.promise(q, 4), 2);
        x.wake(0, 1);
        check.due("settled", x.promise(p, 4), 0);
        check.due("settled, its answer being a letter", x.promise(q, 4), 0);
        check.due("two answers under way", x.wire(1, 0), 2);
        x.flow(100);
        check.due("settled", x.promise(q, 4), 0);
        int lost = x.ask(0, 0, 0, 6, 0, 0);
        x.cut(0, 1);
        check.due("settled as it was lost", x.promise(lost, 4), 0);
        int atOnce = x.ask(0, 0, 0, 6, 0, 0);
        check.due("settled as it was lost at once", x.promise(atOnce, 4), 0);
    }

    private static void promiseWaiting() {
        PromiseWire x = new PromiseWire();
        x.thing(1, 6, 1);
        int p = x.ask(0, 0, 0, 6, 0, 0);
        for (int i = 0; i < 99; i++) {
            x.ask(0, 1, p, 0, 0, 0);
        }
        check.due("letters do not wait", x.promise(p, 2), 0);
        x.flow(1);
        for (int i = 1; i <= 99; i++) {
            x.flow(1);
            check.due("one more waits", x.promise(p, 2), i);
        }
        check.due("count(7)", x.count(7), 99);
        check.due("none waits for the last", x.promise(99, 2), 0);
        x.wake(0, 1);
        check.due("none waits", x.promise(p, 2), 0);
        check.due("count(7)", x.count(7), 0);
        check.due("all are settled", x.count(2), 0);
    }
}
