/** Promises 12 to 17: deliver, flow, cut, again, wire, letter. */
public final class WiresTest {
    private static final int CUT = 1;
    private static final Check check = new Check("WiresTest");

    public static void main(String[] args) {
        deliver();
        flow();
        flowOrder();
        cutBad();
        cutMessage();
        cutAnswerToAsker();
        cutAnswerToHome();
        cutMove();
        cutMoveTwice();
        answerLostAtOnce();
        cutLowerFirst();
        cutOneByOne();
        cutAtOnce();
        cutElsewhere();
        cutWaiters();
        again();
        wire();
        letter();
        check.end();
    }

    private static final int[][] NO_WIRES = {{-1, 0}, {0, -1}, {4, 0}, {0, 4}, {-1, 17}, {3, 4},
        {Integer.MIN_VALUE, 0}, {0, Integer.MAX_VALUE}};

    private static void deliver() {
        PromiseWire x = new PromiseWire();
        for (int[] b : NO_WIRES) {
            check.due("bad deliver", x.deliver(b[0], b[1]), PromiseWire.BAD);
        }
        x.thing(1, 0, 0);
        x.ask(0, 0, 0, 1, 5, 0);
        x.ask(0, 0, 0, 1, 6, 0);
        check.due("the other way", x.deliver(1, 0), PromiseWire.NONE);
        check.due("a message", x.deliver(0, 1), 0);
        check.due("the first", x.about(0, 2), 5);
        check.due("an answer", x.deliver(1, 0), 1);
        x.when(1, 0, 0);
        check.due("of a WHEN", x.deliver(1, 1), 2);
        check.due("a message", x.deliver(0, 1), 0);
        check.due("none", x.deliver(0, 1), PromiseWire.NONE);
        check.due("turns", x.count(8), 3);
    }

    private static void flow() {
        PromiseWire x = new PromiseWire();
        check.due("flow(0)", x.flow(0), PromiseWire.BAD);
        check.due("flow(-1)", x.flow(-1), PromiseWire.BAD);
        check.due("flow(101)", x.flow(101), PromiseWire.BAD);
        check.due("flow(1)", x.flow(1), 0);
        check.due("flow(100)", x.flow(100), 0);
        x.thing(0, 0, 0);
        for (int i = 0; i < 60; i++) {
            x.ask(1, 0, 0, 2, 1, 0);
        }
        check.due("flow(1)", x.flow(1), 1);
        check.due("one", x.about(0, 2), 1);
        check.due("flow(100)", x.flow(100), 100);
        check.due("flow(100)", x.flow(100), 19);
        check.due("sixty", x.about(0, 2), 60);
    }

    private static void flowOrder() {
        PromiseWire x = new PromiseWire();
        x.thing(0, 0, 0);
        x.thing(1, 0, 0);
        x.ask(1, 0, 0, 1, 5, 0);
        x.ask(0, 0, 1, 1, 6, 0);
        x.ask(0, 0, 0, 1, 7, 0);
        x.flow(1);
        check.due("0 to 0 first", x.about(0, 2), 7);
        x.flow(1);
        check.due("then 0 to 1", x.about(1, 2), 6);
        check.due("the answer behind", x.wire(1, 0), 2);
        x.flow(1);
        check.due("then 1 to 0", x.about(0, 2), 5);
        check.due("the new one first", x.wire(0, 1), 1);
        x.flow(1);
        check.due("0 to 1 again", x.state(0, 1, 1), 7);
        check.due("1 to 0 waits", x.state(1, 0, 0), PromiseWire.OPEN);
    }

    private static void cutBad() {
        PromiseWire x = new PromiseWire();
        for (int[] b : NO_WIRES) {
            check.due("bad cut", x.cut(b[0], b[1]), PromiseWire.BAD);
            check.due("bad again", x.again(b[0], b[1]), PromiseWire.BAD);
        }
        for (int house = 0; house < 4; house++) {
            check.due("with itself", x.cut(house, house), PromiseWire.BAD);
            check.due("with itself", x.again(house, house), PromiseWire.BAD);
        }
        check.due("cut", x.cut(3, 1), 0);
        check.due("cut", x.cut(3, 1), PromiseWire.STATE);
        check.due("both ways", x.cut(1, 3), PromiseWire.STATE);
        check.due("another", x.cut(1, 2), 0);
        check.due("count(5)", x.count(5), 2);
    }

    private static void cutMessage() {
        PromiseWire x = new PromiseWire();
        x.thing(1, 0, 3);
        x.thing(0, 0, 0);
        int p = x.ask(0, 0, 0, 1, 9, 0);
        x.when(0, p, 1);
        check.due("lost", x.cut(0, 1), 1);
        check.due("not heard", x.about(0, 2), 3);
        check.due("home", x.state(p, 1, 0), PromiseWire.BROKEN);
        check.due("home", x.state(p, 1, 1), CUT);
        check.due("asker", x.state(p, 0, 1), CUT);
        check.due("letters: message, to HOME, to ASKER", x.promise(p, 3), 3);
        check.due("settled", x.promise(p, 4), 0);
        check.due("none under way but the WHEN", x.count(3), 1);
        check.due("its n", x.letter(0, 0, 0, 3), -1);
        check.due("no turn", x.count(8), 0);
    }

    private static void cutAnswerToAsker() {
        PromiseWire x = new PromiseWire();
        x.thing(1, 0, 3);
        x.thing(0, 0, 0);
        int p = x.ask(0, 0, 0, 0, 0, 0);
        x.when(0, p, 1);
        x.when(1, p, 0);
        x.deliver(0, 1);
        check.due("lost", x.cut(1, 0), 1);
        check.due("home", x.state(p, 1, 1), 3);
        check.due("asker", x.state(p, 0, 0), PromiseWire.BROKEN);
        check.due("asker", x.state(p, 0, 1), CUT);
        check.due("WHEN of asker", x.letter(0, 0, 0, 3), -1);
        check.due("WHEN of home", x.letter(1, 1, 0, 3), 3);
        check.due("letters", x.promise(p, 3), 2);
    }

    private static void cutAnswerToHome() {
        PromiseWire x = new PromiseWire();
        x.thing(1, 0, 3);
        x.guard(0, 0, 255, false);
        int p = x.ask(2, 0, 1, 1, 8, 0);
        x.deliver(2, 0);
        x.deliver(0, 1);
        check.due("heard", x.about(0, 2), 8);
        check.due("answer under way", x.letter(1, 0, 0, 2), PromiseWire.NUMBER);
        check.due("lost", x.cut(0, 1), 1);
        check.due("home", x.state(p, 0, 1), CUT);
        check.due("asker waits for the letter", x.state(p, 2, 0), PromiseWire.OPEN);
        check.due("what it says", x.letter(0, 2, 0, 2), PromiseWire.BROKEN);
        check.due("what it says", x.letter(0, 2, 0, 3), CUT);
        x.flow(1);
        check.due("asker", x.state(p, 2, 1), CUT);
    }

    private static void cutMove() {
        PromiseWire x = new PromiseWire();
        x.thing(0, 1, 10);
        x.thing(1, 1, 0);
        int p = x.ask(0, 0, 0, 4, 4, 1);
        int q = x.ask(0, 0, 0, 4, 5, 1);
        x.deliver(0, 0);
        x.deliver(0, 0);
        check.due("taken", x.about(0, 2), 1);
        check.due("lost", x.cut(0, 1), 2);
        check.due("come back", x.about(0, 2), 10);
        check.due("p", x.state(p, 0, 1), CUT);
        check.due("q", x.state(q, 0, 1), CUT);
        check.due("purses", x.purses(), 10);
    }

    /** What MOVE took comes back once, even if the answer that tells so is lost, too. */
    private static void cutMoveTwice() {
        PromiseWire x = new PromiseWire();
        x.thing(0, 1, 10);
        x.thing(1, 1, 0);
        x.guard(2, 0, 255, false);
        int p = x.ask(2, 0, 2, 4, 4, 1);
        x.deliver(2, 2);
        x.deliver(2, 0);
        check.due("taken", x.about(0, 2), 6);
        check.due("lost", x.cut(0, 1), 1);
        check.due("come back", x.about(0, 2), 10);
        check.due("the answer to HOME", x.letter(0, 2, 0, 0), 1);
        check.due("purses", x.purses(), 10);
        check.due("lost, too", x.cut(0, 2), 1);
        check.due("come back once", x.about(0, 2), 10);
        check.due("broken", x.state(p, 2, 1), CUT);
    }

    private static void answerLostAtOnce() {
        PromiseWire x = new PromiseWire();
        x.thing(1, 6, 1);
        x.thing(0, 0, 0);
        x.guard(2, 0, 255, false);
        int direct = x.ask(0, 0, 0, 6, 0, 0);
        int guarded = x.ask(0, 0, 2, 6, 0, 0);
        x.when(0, direct, 1);
        x.flow(100);
        x.cut(0, 1);
        x.cut(1, 2);
        check.due("wake", x.wake(0, 6), 2);
        check.due("home: a number", x.state(direct, 1, 1), 6);
        check.due("asker: broken", x.state(direct, 0, 0), PromiseWire.BROKEN);
        check.due("asker: CUT", x.state(direct, 0, 1), CUT);
        check.due("WHEN of asker", x.letter(0, 0, 0, 3), -1);
        check.due("letters", x.promise(direct, 3), 2);
        check.due("home of the guarded", x.state(guarded, 2, 0), PromiseWire.BROKEN);
        check.due("home of the guarded", x.state(guarded, 2, 1), CUT);
        check.due("its answer goes on", x.letter(2, 0, 0, 3), CUT);
    }

    /** Letters from house 0 are lost before those from house 1, however the wire is named. */
    private static void cutLowerFirst() {
        for (int turned = 0; turned < 2; turned++) {
            PromiseWire x = new PromiseWire();
            x.thing(1, 0, 3);
            x.guard(0, 0, 255, false);
            int answered = x.ask(2, 0, 1, 0, 0, 0);
            x.deliver(2, 0);
            x.deliver(0, 1);
            int asked = x.ask(2, 0, 1, 0, 0, 0);
            x.deliver(2, 0);
            check.due("lost", turned == 0 ? x.cut(0, 1) : x.cut(1, 0), 2);
            check.due("from the lower house", x.letter(0, 2, 0, 1), asked);
            check.due("from the higher house", x.letter(0, 2, 1, 1), answered);
        }
    }

    private static void cutOneByOne() {
        PromiseWire x = new PromiseWire();
        x.thing(1, 0, 3);
        x.guard(0, 0, 255, false);
        int first = x.ask(2, 0, 1, 0, 0, 0);
        int waiter = x.ask(2, 1, first, 0, 0, 0);
        int second = x.ask(2, 0, 1, 0, 0, 0);
        for (int i = 0; i < 3; i++) {
            x.deliver(2, 0);
        }
        check.due("lost", x.cut(0, 1), 2);
        check.due("first", x.letter(0, 2, 0, 1), first);
        check.due("what was to be done then", x.letter(0, 2, 1, 1), waiter);
        check.due("second", x.letter(0, 2, 2, 1), second);
        check.due("a broken promise's reason", x.state(waiter, 0, 1), CUT);
    }

    private static void cutAtOnce() {
        PromiseWire x = new PromiseWire();
        x.thing(1, 0, 3);
        x.cut(0, 1);
        int p = x.ask(0, 0, 0, 1, 9, 0);
        check.due("broken at once", x.state(p, 0, 1), CUT);
        check.due("at home, too", x.state(p, 1, 1), CUT);
        check.due("no letter", x.wire(0, 1), 0);
        check.due("three were", x.promise(p, 3), 3);
        int q = x.ask(2, 0, 0, 1, 9, 0);
        x.flow(100);
        check.due("another wire", x.state(q, 2, 1), 3);
        check.due("from the house itself", x.ask(1, 0, 0, 1, 4, 0), 2);
        x.flow(100);
        check.due("its own wire is never cut", x.state(2, 1, 1), 9);
    }

    /** A message that is lost away from its home tells home by another wire, or at once. */
    private static void cutElsewhere() {
        PromiseWire x = new PromiseWire();
        x.thing(2, 0, 3);
        x.guard(1, 0, 255, false);
        x.guard(0, 1, 255, false);
        int p = x.ask(0, 0, 2, 0, 0, 0);
        x.deliver(0, 0);
        x.deliver(0, 1);
        check.due("lost", x.cut(1, 2), 1);
        check.due("home learns it by letter", x.state(p, 0, 0), PromiseWire.OPEN);
        check.due("the letter", x.letter(1, 0, 0, 0), 1);
        check.due("its message was settled", x.promise(p, 4), 0);
        x.deliver(1, 0);
        check.due("home", x.state(p, 0, 1), CUT);
        check.due("letters", x.promise(p, 3), 4);
        int q = x.ask(0, 0, 2, 0, 0, 0);
        x.deliver(0, 0);
        x.deliver(0, 1);
        check.due("lost at once", x.letter(1, 0, 0, 1), q);
        check.due("and the answer, too", x.cut(0, 1), 1);
        check.due("home", x.state(q, 0, 1), CUT);
    }

    private static void cutWaiters() {
        PromiseWire x = new PromiseWire();
        x.thing(1, 0, 3);
        x.guard(0, 0, 255, false);
        int who = x.ask(0, 0, 1, 7, 0, 0);
        int waiter = x.ask(0, 1, who, 0, 0, 0);
        x.deliver(0, 0);
        x.deliver(0, 0);
        x.deliver(0, 1);
        check.due("waits", x.promise(waiter, 4), 2);
        x.deliver(1, 0);
        check.due("sent on", x.letter(0, 1, 0, 1), waiter);
        check.due("lost", x.cut(0, 1), 1);
        check.due("who is there", x.state(who, 0, 0), PromiseWire.THING);
        check.due("but out of reach", x.state(waiter, 0, 1), CUT);
        int later = x.ask(0, 1, who, 0, 0, 0);
        x.deliver(0, 0);
        check.due("at once", x.state(later, 0, 1), CUT);
        check.due("two letters", x.promise(later, 3), 2);
    }

    private static void again() {
        PromiseWire x = new PromiseWire();
        x.thing(1, 0, 3);
        check.due("never cut", x.again(0, 1), PromiseWire.STATE);
        x.cut(0, 1);
        check.due("count(5)", x.count(5), 1);
        check.due("another", x.again(0, 2), PromiseWire.STATE);
        check.due("again", x.again(1, 0), 1);
        check.due("count(5)", x.count(5), 0);
        check.due("it is", x.again(0, 1), PromiseWire.STATE);
        int p = x.ask(0, 0, 0, 0, 0, 0);
        check.due("both ways", x.flow(100), 2);
        check.due("answer", x.state(p, 0, 1), 3);
        check.due("cut again", x.cut(0, 1), 0);
    }

    private static void wire() {
        PromiseWire x = new PromiseWire();
        for (int[] b : NO_WIRES) {
            check.due("bad wire", x.wire(b[0], b[1]), PromiseWire.BAD);
        }
        x.thing(3, 0, 0);
        x.ask(2, 0, 0, 0, 0, 0);
        x.ask(2, 0, 0, 0, 0, 0);
        check.due("two", x.wire(2, 3), 2);
        check.due("none", x.wire(3, 2), 0);
        x.deliver(2, 3);
        check.due("one", x.wire(2, 3), 1);
        check.due("one", x.wire(3, 2), 1);
        x.cut(3, 2);
        check.due("none", x.wire(2, 3), 0);
        check.due("none", x.wire(3, 2), 0);
    }

    private static void letter() {
        PromiseWire x = new PromiseWire();
        for (int[] b : NO_WIRES) {
            check.due("bad letter", x.letter(b[0], b[1], 0, 0), PromiseWire.BAD);
        }
        check.due("none", x.letter(0, 1, 0, 0), PromiseWire.NONE);
        check.due("BAD first", x.letter(0, 1, 0, 6), PromiseWire.BAD);
        check.due("BAD first", x.letter(0, 1, 0, -1), PromiseWire.BAD);
        x.thing(1, 0, 30);
        x.ask(0, 0, 0, 7, 11, 0);
        x.ask(0, 1, 0, 3, 12, 0);
        int[][] due = {{0, 0, 7, 11, 0, PromiseWire.NONE}, {0, 1, 3, 12, PromiseWire.NONE, 0}};
        for (int i = 0; i < 2; i++) {
            for (int what = 0; what <= 5; what++) {
                check.due("letter " + i + " " + what, x.letter(0, 1, i, what), due[i][what]);
            }
        }
        check.due("none", x.letter(0, 1, 2, 0), PromiseWire.NONE);
        check.due("none", x.letter(0, 1, -1, 0), PromiseWire.NONE);
        check.due("none", x.letter(0, 1, Integer.MAX_VALUE, 0), PromiseWire.NONE);
        x.deliver(0, 1);
        int[] answer = {1, 0, PromiseWire.THING, 0, PromiseWire.NONE, PromiseWire.NONE};
        for (int what = 0; what <= 5; what++) {
            check.due("answer " + what, x.letter(1, 0, 0, what), answer[what]);
        }
        x.deliver(0, 1);
        check.due("sent on to the thing", x.letter(1, 1, 0, 4), 0);
    }
}
