/** Promises 8 to 11: ask, when, state, promise, and the order in which promises are done. */
public final class AsksTest {
    private static final int CUT = 1, REFUSED = 3;
    private static final Check check = new Check("AsksTest");

    public static void main(String[] args) {
        askBad();
        askState();
        askFull();
        askThing();
        askPromise();
        askDonePromise();
        askFromHome();
        waitingBeforeAnswer();
        brokenWaitersAfterAnswer();
        joinAnswersBeforeDone();
        answerByWayOfHome();
        whenBad();
        whenFull();
        whenOrder();
        whenValues();
        whenSentOn();
        state();
        promise();
        check.end();
    }

    private static void askBad() {
        PromiseWire x = new PromiseWire();
        x.thing(0, 1, 5);
        x.ask(0, 0, 0, 0, 0, 0);
        int[][] bad = {{-1, 0, 0, 0, 0, 0}, {4, 0, 0, 0, 0, 0}, {0, -1, 0, 0, 0, 0},
            {0, 2, 0, 0, 0, 0}, {0, 0, -1, 0, 0, 0}, {0, 0, 1, 0, 0, 0}, {0, 1, -1, 0, 0, 0},
            {0, 1, 1, 0, 0, 0}, {0, 0, 0, -1, 0, 0}, {0, 0, 0, 8, 0, 0}, {0, 0, 0, 4, 0, -1},
            {0, 0, 0, 4, 0, 1}, {2, 1, 0, 8, 0, 0}, {2, 1, 0, 4, 0, 1}};
        for (int[] b : bad) {
            check.due("bad ask", x.ask(b[0], b[1], b[2], b[3], b[4], b[5]), PromiseWire.BAD);
        }
        check.due("other is not looked at", x.ask(0, 0, 0, 0, 0, -1), 1);
        check.due("other is not looked at", x.ask(0, 0, 0, 7, 0, 99), 2);
    }

    private static void askState() {
        PromiseWire x = new PromiseWire();
        x.thing(1, 0, 5);
        x.ask(0, 0, 0, 0, 0, 0);
        check.due("house 2", x.ask(2, 1, 0, 0, 0, 0), PromiseWire.STATE);
        check.due("house 3", x.ask(3, 1, 0, 0, 0, 0), PromiseWire.STATE);
        check.due("asker", x.ask(0, 1, 0, 0, 0, 0), 1);
        check.due("home", x.ask(1, 1, 0, 0, 0, 0), 2);
        check.due("any house asks a thing", x.ask(3, 0, 0, 0, 0, 0), 3);
    }

    private static void askFull() {
        PromiseWire x = new PromiseWire();
        x.thing(1, 0, 5);
        for (int p = 0; p < 100; p++) {
            check.due("ask", x.ask(0, 0, 0, 0, 0, 0), p);
        }
        check.due("BAD first", x.ask(0, 0, 1, 0, 0, 0), PromiseWire.BAD);
        check.due("STATE first", x.ask(2, 1, 0, 0, 0, 0), PromiseWire.STATE);
        check.due("FULL", x.ask(0, 0, 0, 0, 0, 0), PromiseWire.FULL);
        x.flow(100);
        check.due("for ever", x.ask(0, 0, 0, 0, 0, 0), PromiseWire.FULL);
    }

    private static void askThing() {
        PromiseWire x = new PromiseWire();
        x.thing(1, 0, 5);
        int p = x.ask(3, 0, 0, 2, 4, 0);
        check.due("nothing happens yet", x.about(0, 2), 5);
        check.due("asker", x.promise(p, 0), 3);
        check.due("home", x.promise(p, 1), 1);
        check.due("open", x.state(p, 3, 0), PromiseWire.OPEN);
        check.due("open", x.state(p, 1, 0), PromiseWire.OPEN);
        check.due("a letter", x.promise(p, 4), 3);
        x.deliver(3, 1);
        check.due("settled", x.promise(p, 4), 0);
        check.due("number at home", x.state(p, 1, 0), PromiseWire.NUMBER);
        check.due("9 at home", x.state(p, 1, 1), 9);
        check.due("asker does not know", x.state(p, 3, 0), PromiseWire.OPEN);
        check.due("an answer", x.letter(1, 3, 0, 0), 1);
        x.deliver(1, 3);
        check.due("asker knows", x.state(p, 3, 1), 9);
        check.due("two letters", x.promise(p, 3), 2);
    }

    private static void askPromise() {
        PromiseWire x = new PromiseWire();
        x.thing(1, 6, 1);
        x.thing(2, 0, 40);
        x.guard(1, 1, 255, false);
        int who = x.ask(0, 0, 2, 7, 0, 0);
        int give = x.ask(0, 1, who, 2, 2, 0);
        int ahead = x.ask(0, 1, give, 0, 0, 0);
        check.due("home of a promise's promise", x.promise(ahead, 1), 1);
        check.due("to a promise", x.letter(0, 1, 1, 5), who);
        check.due("to no thing", x.letter(0, 1, 1, 4), PromiseWire.NONE);
        for (int i = 0; i < 3; i++) {
            check.due("deliver", x.deliver(0, 1), 0);
        }
        check.due("turns: the guard's alone", x.count(8), 1);
        check.due("one waits for who", x.promise(who, 2), 1);
        check.due("one waits for give", x.promise(give, 2), 1);
        check.due("give waits", x.promise(give, 4), 2);
        check.due("count(7)", x.count(7), 2);
        check.due("WHO", x.deliver(1, 2), 0);
        check.due("the answer to HOME", x.deliver(2, 1), 1);
        check.due("thing", x.state(who, 1, 0), PromiseWire.THING);
        check.due("thing 1", x.state(who, 1, 1), 1);
        check.due("sent on to it", x.letter(1, 2, 0, 4), 1);
        check.due("no more to a promise", x.letter(1, 2, 0, 5), PromiseWire.NONE);
        check.due("its promise", x.letter(1, 2, 0, 1), give);
        check.due("a letter again", x.promise(give, 4), 3);
        x.flow(100);
        check.due("42", x.state(give, 0, 1), 42);
        check.due("a number hears nothing", x.state(ahead, 0, 1), REFUSED);
        check.due("letters of give", x.promise(give, 3), 4);
        check.due("letters of ahead", x.promise(ahead, 3), 2);
    }

    private static void askDonePromise() {
        PromiseWire x = new PromiseWire();
        x.thing(0, 0, 40);
        int who = x.ask(0, 0, 0, 7, 0, 0);
        int get = x.ask(0, 0, 0, 0, 0, 0);
        int made = x.ask(0, 0, 0, 5, 0, 0);
        x.flow(100);
        int ofThing = x.ask(0, 1, who, 2, 1, 0);
        check.due("sent on at once", x.deliver(0, 0), 0);
        check.due("no turn", x.count(8), 3);
        check.due("a letter", x.promise(ofThing, 4), 3);
        x.deliver(0, 0);
        check.due("41", x.state(ofThing, 0, 1), 41);
        int ofNumber = x.ask(0, 1, get, 0, 0, 0);
        int ofBroken = x.ask(0, 1, made, 0, 0, 0);
        x.flow(100);
        check.due("REFUSED", x.state(ofNumber, 0, 0), PromiseWire.BROKEN);
        check.due("REFUSED", x.state(ofNumber, 0, 1), REFUSED);
        check.due("its REASON", x.state(ofBroken, 0, 1), REFUSED);
        check.due("turns", x.count(8), 4);
    }

    /** A broken promise hands on its own reason, not REFUSED. */
    private static void askFromHome() {
        PromiseWire x = new PromiseWire();
        x.thing(1, 1, 0);
        int poor = x.ask(0, 0, 0, 3, 1, 0);
        int fromHome = x.ask(1, 1, poor, 0, 0, 0);
        check.due("from HOME itself", x.wire(1, 1), 1);
        x.deliver(1, 1);
        check.due("waits", x.promise(fromHome, 4), 2);
        x.flow(100);
        check.due("POOR", x.state(fromHome, 1, 1), 2);
        check.due("one letter alone", x.promise(fromHome, 3), 1);
    }

    private static void waitingBeforeAnswer() {
        PromiseWire x = new PromiseWire();
        x.thing(1, 0, 0);
        x.guard(0, 0, 255, false);
        int who = x.ask(1, 0, 1, 7, 0, 0);
        int first = x.ask(1, 1, who, 2, 1, 0);
        int second = x.ask(1, 1, who, 2, 1, 0);
        for (int i = 0; i < 3; i++) {
            x.deliver(1, 0);
        }
        x.deliver(0, 1);
        x.deliver(1, 0);
        check.due("first waiter", x.letter(0, 1, 0, 1), first);
        check.due("second waiter", x.letter(0, 1, 1, 1), second);
        check.due("then the answer", x.letter(0, 1, 2, 1), who);
        check.due("an answer", x.letter(0, 1, 2, 0), 1);
        check.due("a thing", x.letter(0, 1, 2, 2), PromiseWire.THING);
        check.due("thing 0", x.letter(0, 1, 2, 3), 0);
    }

    private static void brokenWaitersAfterAnswer() {
        PromiseWire x = new PromiseWire();
        x.thing(0, 6, 1);
        int join = x.ask(1, 0, 0, 6, 0, 0);
        int one = x.ask(1, 1, join, 0, 0, 0);
        int two = x.ask(1, 1, join, 0, 0, 0);
        int three = x.ask(1, 1, one, 0, 0, 0);
        x.flow(100);
        x.wake(0, 5);
        int[] order = {join, one, two, three};
        for (int i = 0; i < order.length; i++) {
            check.due("order", x.letter(0, 1, i, 1), order[i]);
        }
        check.due("no wake for the third", x.state(three, 0, 1), REFUSED);
    }

    /** An answer that is settled away from home is posted in the turn, the others behind it. */
    private static void joinAnswersBeforeDone() {
        PromiseWire x = new PromiseWire();
        x.thing(1, 5, 2);
        x.guard(2, 0, 255, false);
        int direct = x.ask(2, 0, 0, 6, 1, 0);
        x.deliver(2, 1);
        int guarded = x.ask(2, 0, 1, 6, 2, 0);
        x.deliver(2, 2);
        check.due("the joiner hears it", x.deliver(2, 1), 0);
        check.due("in the turn", x.letter(1, 2, 0, 1), guarded);
        check.due("behind it", x.letter(1, 2, 1, 1), direct);
        check.due("done at home", x.state(direct, 1, 1), 3);
        check.due("not yet", x.state(guarded, 2, 0), PromiseWire.OPEN);
        x.flow(100);
        check.due("done", x.state(guarded, 2, 1), 3);
    }

    private static void answerByWayOfHome() {
        PromiseWire x = new PromiseWire();
        x.thing(3, 0, 6);
        x.guard(1, 0, 1, false);
        int p = x.ask(3, 0, 1, 0, 0, 0);
        x.deliver(3, 1);
        x.deliver(1, 3);
        check.due("the asker's house knows nothing", x.state(p, 3, 0), PromiseWire.OPEN);
        check.due("to HOME", x.wire(3, 1), 1);
        check.due("settled", x.promise(p, 4), 0);
        check.due("open at home", x.count(2), 1);
        check.due("deliver", x.deliver(3, 1), 1);
        check.due("at home", x.state(p, 1, 1), 6);
        check.due("asker", x.state(p, 3, 0), PromiseWire.OPEN);
        check.due("deliver", x.deliver(1, 3), 1);
        check.due("asker", x.state(p, 3, 1), 6);
        check.due("letters", x.promise(p, 3), 4);
    }

    private static void whenBad() {
        PromiseWire x = new PromiseWire();
        x.thing(0, 0, 0);
        x.thing(1, 0, 0);
        x.thing(2, 0, 0);
        x.ask(0, 0, 1, 0, 0, 0);
        int[][] bad = {{-1, 0, 0}, {4, 0, 0}, {0, -1, 0}, {0, 1, 0}, {0, 0, -1}, {0, 0, 3},
            {0, 0, 1}, {1, 0, 0}, {2, 0, 0}};
        for (int[] b : bad) {
            check.due("bad when", x.when(b[0], b[1], b[2]), PromiseWire.BAD);
        }
        check.due("neither asker nor home", x.when(2, 0, 2), PromiseWire.STATE);
        check.due("asker", x.when(0, 0, 0), 1);
        check.due("home", x.when(1, 0, 1), 2);
    }

    private static void whenFull() {
        PromiseWire x = new PromiseWire();
        x.thing(0, 0, 0);
        x.thing(1, 0, 0);
        x.ask(0, 0, 0, 0, 0, 0);
        for (int i = 1; i <= 40; i++) {
            check.due("when", x.when(0, 0, 0), i);
        }
        check.due("BAD first", x.when(0, 0, 1), PromiseWire.BAD);
        check.due("STATE first", x.when(1, 0, 1), PromiseWire.STATE);
        check.due("FULL", x.when(0, 0, 0), PromiseWire.FULL);
        check.due("count(4)", x.count(4), 40);
        x.deliver(0, 0);
        check.due("all posted", x.wire(0, 0), 40);
        check.due("for ever", x.when(0, 0, 0), PromiseWire.FULL);
    }

    private static void whenOrder() {
        PromiseWire x = new PromiseWire();
        x.thing(0, 0, 100);
        x.thing(0, 0, 0);
        x.thing(1, 0, 7);
        int p = x.ask(0, 0, 2, 0, 0, 0);
        int q = x.ask(0, 0, 2, 7, 0, 0);
        x.when(0, p, 1);
        x.when(1, p, 2);
        x.when(0, q, 1);
        x.when(0, p, 0);
        check.due("none posted", x.wire(0, 0), 0);
        x.deliver(0, 1);
        check.due("at home", x.wire(1, 1), 1);
        check.due("not yet at the asker", x.wire(0, 0), 0);
        check.due("of a WHEN", x.letter(1, 1, 0, 0), 2);
        check.due("no promise", x.letter(1, 1, 0, 1), PromiseWire.NONE);
        check.due("GIVE", x.letter(1, 1, 0, 2), 2);
        check.due("of 7", x.letter(1, 1, 0, 3), 7);
        check.due("to 2", x.letter(1, 1, 0, 4), 2);
        check.due("to no promise", x.letter(1, 1, 0, 5), PromiseWire.NONE);
        x.deliver(1, 0);
        check.due("two of p", x.wire(0, 0), 2);
        check.due("the first", x.letter(0, 0, 0, 4), 1);
        check.due("the second", x.letter(0, 0, 1, 4), 0);
        check.due("at once", x.when(0, p, 1), 5);
        check.due("three", x.wire(0, 0), 3);
        check.due("what it is", x.deliver(0, 0), 2);
        check.due("it has heard", x.about(1, 2), 7);
        check.due("a turn", x.count(8), 2);
    }

    private static void whenValues() {
        PromiseWire x = new PromiseWire();
        x.thing(0, 0, 0);
        x.thing(0, 1, 0);
        x.thing(0, 5, 1);
        x.thing(0, 0, 0);
        int who = x.ask(0, 0, 3, 7, 0, 0);
        int poor = x.ask(0, 0, 1, 3, 1, 0);
        int open = x.ask(0, 0, 1, 0, 0, 0);
        x.deliver(0, 0);
        x.deliver(0, 0);
        x.when(0, who, 0);
        x.when(0, poor, 0);
        x.when(0, open, 0);
        x.deliver(0, 0);
        check.due("a THING's number", x.letter(0, 0, 0, 3), 3);
        check.due("a REASON below 0", x.letter(0, 0, 1, 3), -2);
        check.due("later", x.letter(0, 0, 2, 3), 0);
        x.flow(100);
        check.due("sum", x.about(0, 2), 1);
        long trace = x.trace();
        x.when(0, poor, 1);
        x.when(0, poor, 2);
        check.due("two letters, no answers", x.flow(100), 2);
        check.due("refused", x.about(1, 2), 0);
        check.due("both heard", x.trace() - trace, 100010);
    }

    private static void whenSentOn() {
        PromiseWire x = new PromiseWire();
        x.thing(1, 0, 50);
        x.guard(0, 0, 4, false);
        x.thing(0, 0, 8);
        int p = x.ask(0, 0, 2, 0, 0, 0);
        x.when(0, p, 1);
        x.when(0, p, 1);
        x.deliver(0, 0);
        x.deliver(0, 0);
        check.due("still of a WHEN", x.letter(0, 1, 0, 0), 2);
        check.due("to 0", x.letter(0, 1, 0, 4), 0);
        check.due("deliver", x.deliver(0, 1), 2);
        check.due("given", x.about(0, 2), 58);
        check.due("no answer", x.wire(1, 0), 0);
        x.deliver(0, 0);
        check.due("lost", x.cut(0, 1), 1);
        check.due("nothing", x.count(3), 0);
        x.when(0, p, 1);
        check.due("deliver", x.deliver(0, 0), 2);
        check.due("lost at once", x.count(3), 0);
        check.due("not given", x.about(0, 2), 58);
        check.due("home of p", x.state(p, 0, 1), 8);
    }

    private static void state() {
        PromiseWire x = new PromiseWire();
        x.thing(1, 0, 5);
        x.ask(0, 0, 0, 0, 0, 0);
        int[][] bad = {{-1, 0, 0}, {1, 0, 0}, {0, -1, 0}, {0, 4, 0}, {0, 0, -1}, {0, 0, 2},
            {0, 2, 2}};
        for (int[] b : bad) {
            check.due("bad state", x.state(b[0], b[1], b[2]), PromiseWire.BAD);
        }
        check.due("STATE", x.state(0, 2, 0), PromiseWire.STATE);
        check.due("STATE", x.state(0, 3, 1), PromiseWire.STATE);
        check.due("open", x.state(0, 0, 0), PromiseWire.OPEN);
        check.due("0 while open", x.state(0, 1, 1), 0);
        x.flow(1);
        check.due("home", x.state(0, 1, 0), PromiseWire.NUMBER);
        x.cut(0, 1);
        check.due("asker: broken", x.state(0, 0, 0), PromiseWire.BROKEN);
        check.due("asker: CUT", x.state(0, 0, 1), CUT);
        check.due("home: that stays", x.state(0, 1, 0), PromiseWire.NUMBER);
        check.due("home: that stays", x.state(0, 1, 1), 5);
    }

    private static void promise() {
        PromiseWire x = new PromiseWire();
        x.thing(1, 5, 2);
        int p = x.ask(0, 0, 0, 6, 1, 0);
        int q = x.ask(0, 1, p, 0, 0, 0);
        check.due("promise(2, 0)", x.promise(2, 0), PromiseWire.BAD);
        check.due("promise(-1, 0)", x.promise(-1, 0), PromiseWire.BAD);
        check.due("promise(0, -1)", x.promise(0, -1), PromiseWire.BAD);
        check.due("promise(0, 5)", x.promise(0, 5), PromiseWire.BAD);
        check.due("letter", x.promise(q, 4), 3);
        check.due("asker", x.promise(q, 0), 0);
        check.due("home", x.promise(q, 1), 1);
        x.flow(2);
        check.due("held", x.promise(p, 4), 1);
        check.due("waits", x.promise(q, 4), 2);
        check.due("one waits", x.promise(p, 2), 1);
        check.due("none waits", x.promise(q, 2), 0);
        check.due("one letter", x.promise(p, 3), 1);
        x.ask(1, 0, 0, 6, 1, 0);
        x.deliver(1, 1);
        check.due("settled", x.promise(p, 4), 0);
        check.due("settled", x.promise(q, 4), 0);
        check.due("none waits", x.promise(p, 2), 0);
        check.due("two letters", x.promise(p, 3), 2);
        check.due("one letter", x.promise(2, 3), 1);
    }
}
