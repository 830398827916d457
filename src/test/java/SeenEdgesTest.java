/** Promises 18 to 20 at their edges: none there, all places taken, sums beyond 32 bits. */
public final class SeenEdgesTest {
    private static final int MIN = Integer.MIN_VALUE, MAX = Integer.MAX_VALUE;
    private static final Check check = new Check("SeenEdgesTest");

    public static void main(String[] args) {
        pursesOfNone();
        pursesBeyond32Bits();
        pursesBelowNought();
        pursesOfLettersThatMoveSentOn();
        pursesOnEachWire();
        countRefused();
        countThings();
        countPromises();
        countLetters();
        countWires();
        countHeldAndWaiting();
        countTurns();
        traceOfNoTurn();
        traceOfEachKind();
        lookingChangesNothing();
        check.end();
    }

    // ---- 18: purses

    private static void pursesOfNone() {
        PromiseWire x = new PromiseWire();
        check.due("none", x.purses(), 0);
        x.thing(0, 0, 100);
        x.thing(0, 2, 100);
        x.thing(0, 5, 20);
        x.thing(0, 6, 20);
        check.due("no PURSE", x.purses(), 0);
        x.thing(0, 1, 0);
        check.due("an empty one", x.purses(), 0);
        x.guard(0, 4, 255, false);
        x.thing(0, 1, 1);
        check.due("one", x.purses(), 1);
    }

    private static void pursesBeyond32Bits() {
        PromiseWire x = new PromiseWire();
        for (int i = 1; i <= 40; i++) {
            x.thing(i % 4, 1, MAX);
            check.due("purses", x.purses(), i * (long) MAX);
        }
        x.ask(0, 0, 3, 4, MAX, 7);
        x.deliver(0, 0);
        check.due("with a letter of MOVE", x.purses(), 40 * (long) MAX);
    }

    private static void pursesBelowNought() {
        PromiseWire x = new PromiseWire();
        x.thing(0, 1, MAX);
        x.thing(0, 1, MAX);
        x.ask(0, 0, 0, 2, 1, 0);
        x.ask(0, 0, 1, 2, MAX, 0);
        check.due("GIVE that is asked does not count", x.purses(), 2 * (long) MAX);
        x.deliver(0, 0);
        check.due("a NUMBER goes round, the sum does not", x.purses(), (long) MIN + MAX);
        x.deliver(0, 0);
        check.due("each is below 0", x.purses(), (long) MIN - 2);
    }

    private static void pursesOfLettersThatMoveSentOn() {
        PromiseWire x = new PromiseWire();
        x.thing(0, 1, 10);
        x.thing(1, 1, 100);
        x.thing(0, 0, 4);
        x.guard(0, 1, 255, false);
        x.ask(0, 0, 0, 4, 6, 1);
        x.ask(0, 0, 0, 4, 4, 1);
        x.ask(0, 0, 0, 4, 1, 1);
        check.due("MOVE that is asked", x.purses(), 110);
        x.deliver(0, 0);
        check.due("taken", x.about(0, 2), 4);
        check.due("one under way", x.purses(), 110);
        x.deliver(0, 0);
        check.due("two under way", x.purses(), 110);
        x.deliver(0, 0);
        check.due("POOR, and none is sent on", x.purses(), 110);
        check.due("two", x.wire(0, 1), 2);
        x.ask(0, 0, 1, 2, 1000, 0);
        x.ask(0, 0, 3, 2, 1000, 0);
        x.deliver(0, 0);
        check.due("GIVE that a guard sent on does not count", x.purses(), 110);
        x.deliver(0, 1);
        check.due("one has come", x.purses(), 110);
        check.due("it has come", x.about(1, 2), 106);
        x.deliver(0, 1);
        check.due("the answers do not count", x.purses(), 110);
        x.deliver(0, 1);
        check.due("GIVE has come", x.purses(), 1110);
        int p = x.ask(0, 0, 2, 0, 0, 0);
        x.deliver(0, 0);
        x.when(0, p, 0);
        check.due("GIVE of a WHEN does not count", x.purses(), 1110);
        x.deliver(0, 0);
        check.due("until it has come", x.purses(), 1114);
    }

    private static void pursesOnEachWire() {
        for (int wire = 0; wire < 16; wire++) {
            PromiseWire x = new PromiseWire();
            int from = wire / 4;
            int to = wire % 4;
            x.thing(from, 1, 9);
            x.thing(to, 1, 1);
            x.ask(from, 0, 0, 4, 6, 1);
            x.deliver(from, from);
            check.due("taken", x.about(0, 2), 3);
            check.due("under way by wire " + wire, x.purses(), 10);
            if (from != to) {
                x.cut(from, to);
                check.due("come back by wire " + wire, x.about(0, 2), 9);
                check.due("no less", x.purses(), 10);
            }
        }
    }

    // ---- 19: count

    private static void countRefused() {
        Refusals some = new Refusals(check, x -> {
            Edges.oneOfEach(x);
            x.ask(0, 0, 5, 6, 1, 0);
            x.cut(2, 3);
        });
        for (int what : Edges.outside(8)) {
            some.bad("count(" + what + ")", x -> x.count(what));
        }
    }

    private static void countThings() {
        PromiseWire x = new PromiseWire();
        x.thing(0, 2, 0);
        check.due("one", x.count(0), 1);
        x.guard(1, 0, 255, true);
        check.due("a guard is one", x.count(0), 2);
        x.ask(0, 0, 0, 5, 0, 0);
        check.due("none is made yet", x.count(0), 2);
        x.flow(1);
        check.due("what is made is one", x.count(0), 3);
        for (int i = 3; i < 50; i++) {
            x.thing(0, 0, 0);
            check.due("forty at most", x.count(0), Math.min(i + 1, 40));
        }
    }

    private static void countPromises() {
        PromiseWire x = new PromiseWire();
        x.thing(1, 0, 0);
        for (int i = 1; i <= 105; i++) {
            x.ask(0, 0, 0, 0, 0, 0);
            check.due("a hundred at most", x.count(1), Math.min(i, 100));
            check.due("all are open", x.count(2), Math.min(i, 100));
        }
        x.deliver(0, 1);
        check.due("one is done in its HOME", x.count(2), 99);
        check.due("its ASKER does not know", x.state(0, 0, 0), PromiseWire.OPEN);
        check.due("promises ever", x.count(1), 100);
        x.cut(0, 1);
        check.due("none is open", x.count(2), 0);
        check.due("promises ever", x.count(1), 100);
    }

    private static void countLetters() {
        PromiseWire x = new PromiseWire();
        for (int house = 0; house < 4; house++) {
            x.thing(house, 0, 0);
        }
        for (int wire = 0; wire < 16; wire++) {
            x.ask(wire / 4, 0, wire % 4, 0, 0, 0);
            check.due("one more", x.count(3), wire + 1);
        }
        x.deliver(1, 1);
        check.due("no answer within a house", x.count(3), 15);
        x.deliver(0, 1);
        check.due("an answer is one", x.count(3), 15);
        x.when(1, 5, 1);
        check.due("of a WHEN, too", x.count(3), 16);
        check.due("WHENS ever", x.count(4), 1);
        x.flow(100);
        check.due("none", x.count(3), 0);
        check.due("WHENS ever", x.count(4), 1);
    }

    private static void countWires() {
        PromiseWire x = new PromiseWire();
        int cuts = 0;
        for (int a = 3; a >= 0; a--) {
            for (int b = a - 1; b >= 0; b--) {
                x.cut(a, b);
                cuts++;
                check.due("one for both ways", x.count(5), cuts);
                x.cut(b, a);
                check.due("it is cut once", x.count(5), cuts);
            }
        }
        for (int a = 0; a < 4; a++) {
            for (int b = a + 1; b < 4; b++) {
                x.again(a, b);
                cuts--;
                check.due("one less", x.count(5), cuts);
            }
        }
    }

    private static void countHeldAndWaiting() {
        PromiseWire x = new PromiseWire();
        x.thing(0, 5, 20);
        x.thing(0, 6, 1);
        for (int i = 0; i < 19; i++) {
            x.ask(0, 0, 0, 6, 1, 0);
            x.ask(0, 0, 1, 6, 1, 0);
        }
        x.ask(0, 1, 0, 0, 0, 0);
        x.ask(0, 1, 1, 0, 0, 0);
        x.ask(0, 1, 38, 0, 0, 0);
        check.due("none is held yet", x.count(6), 0);
        check.due("none waits yet", x.count(7), 0);
        x.flow(100);
        check.due("held by each", x.count(6), 38);
        check.due("of several promises", x.count(7), 3);
        x.wake(1, 5);
        check.due("the joiner's", x.count(6), 19);
        check.due("two wait", x.count(7), 2);
        x.ask(0, 0, 0, 6, 1, 0);
        x.flow(100);
        check.due("none is held", x.count(6), 0);
        check.due("none waits", x.count(7), 0);
    }

    /** A TURN is a THING's that hears: no answer, no message to a PROMISE, nothing that is lost. */
    private static void countTurns() {
        PromiseWire x = new PromiseWire();
        x.thing(1, 6, 1);
        x.guard(1, 0, 255, false);
        x.guard(1, 0, 0, false);
        int p = x.ask(0, 0, 1, 6, 0, 0);
        x.ask(0, 1, p, 0, 0, 0);
        check.due("asked", x.count(8), 0);
        x.deliver(0, 1);
        check.due("the guard's", x.count(8), 1);
        x.deliver(0, 1);
        check.due("waiting is none", x.count(8), 1);
        x.deliver(1, 1);
        check.due("the sleeper's, though it is held", x.count(8), 2);
        x.wake(0, 0);
        check.due("waking is none", x.count(8), 2);
        x.flow(100);
        check.due("answers are none", x.count(8), 2);
        x.ask(1, 0, 2, 0, 0, 0);
        x.flow(100);
        check.due("one that breaks is one", x.count(8), 3);
        x.when(1, p, 0);
        check.due("a WHEN is posted", x.count(8), 3);
        x.flow(100);
        check.due("a WHEN is heard", x.count(8), 4);
        x.cut(0, 1);
        x.ask(0, 0, 0, 0, 0, 0);
        check.due("lost", x.count(8), 4);
    }

    // ---- 20: trace

    private static void traceOfNoTurn() {
        PromiseWire x = new PromiseWire();
        Edges.oneOfEach(x);
        int p = x.ask(0, 0, 6, 6, 0, 0);
        x.ask(0, 1, p, 0, 0, 0);
        check.due("none has heard", x.trace(), 0);
        x.flow(100);
        check.due("the sleeper has", x.trace(), 1000000);
        x.wake(6, 1);
        x.flow(100);
        x.ask(0, 1, p, 0, 0, 0);
        x.flow(100);
        x.cut(0, 1);
        x.ask(0, 0, 1, 0, 0, 0);
        x.flow(100);
        check.due("none but the sleeper", x.trace(), 1000000);
    }

    private static void traceOfEachKind() {
        long[] alone = {1, 10, 100, 1000, 10000, 100000, 1000000};
        long[] ups = {1, 11, 100, 1000, 11000, 100000, 1100000};
        for (int kind = 0; kind <= 6; kind++) {
            PromiseWire x = new PromiseWire();
            Edges.oneOfEach(x);
            x.back(4);
            int house = x.about(kind, 0);
            int[] notUp = {0, 1, 0, 0, 0, 0, 6};
            x.ask(house, 0, kind, notUp[kind], 0, 0);
            x.deliver(house, house);
            check.due("kind " + kind + " alone", x.trace(), alone[kind]);

            PromiseWire y = new PromiseWire();
            Edges.oneOfEach(y);
            y.ask(house, 0, kind, 0, 0, 0);
            y.deliver(house, house);
            check.due("kind " + kind + " and its ups", y.trace(), ups[kind]);
        }
        PromiseWire x = new PromiseWire();
        x.thing(0, 6, 1);
        for (int i = 0; i < 100; i++) {
            x.ask(0, 0, 0, 0, 0, 0);
        }
        x.flow(100);
        check.due("a hundred times", x.trace(), 110000000);
    }

    // ---- the calls that only look

    private static void lookingChangesNothing() {
        Scene scene = x -> {
            Edges.oneOfEach(x);
            x.ask(0, 0, 5, 6, 1, 0);
            x.ask(0, 1, 0, 6, 1, 0);
            x.flow(1);
            x.when(1, 0, 5);
            x.ask(2, 0, 6, 6, 1, 0);
            x.cut(2, 3);
        };
        Scene lookedAt = x -> {
            scene.play(x);
            for (int i = 0; i <= 8; i++) {
                x.count(i);
                x.purses();
                x.trace();
                x.about(i, i);
                x.promise(i, i);
                x.state(i, i, 0);
                x.wire(i / 3, i % 3);
                x.letter(2, 2, 0, i);
                x.letter(0, 1, i, 0);
            }
        };
        check.isTrue("looking changes nothing", Seen.all(scene).equals(Seen.all(lookedAt)));
    }
}
