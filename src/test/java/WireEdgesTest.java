/** Promises 12 to 17 at their edges, and what the terms say of a WIRE that is cut. */
public final class WireEdgesTest {
    private static final int NONE = PromiseWire.NONE;
    private static final int OPEN = PromiseWire.OPEN, NUMBER = PromiseWire.NUMBER,
        THING = PromiseWire.THING, BROKEN = PromiseWire.BROKEN;
    private static final int MIN = Integer.MIN_VALUE, MAX = Integer.MAX_VALUE;
    private static final Check check = new Check("WireEdgesTest");

    public static void main(String[] args) {
        deliverRefused();
        deliverNone();
        deliverOneAlone();
        deliverKeepsOrder();
        flowRefused();
        flowBounds();
        flowByFromThenTo();
        flowBeginsAnew();
        cutRefused();
        cutEachPair();
        cutOwnWireNever();
        cutLosesNoOthers();
        cutCounts();
        cutLowerHouseFirst();
        cutEachWithWhatIsToBeDone();
        cutBothWaysAtOnce();
        cutMessageSentOn();
        cutMoveComesBackFirst();
        cutMoveGoesRound();
        cutMoveToAnotherHouseAlone();
        cutAnswerToHome();
        cutAnswerToAsker();
        cutWhen();
        lostAtOnce();
        lostAtOnceAnswers();
        lostAtOnceToHome();
        againRefused();
        againBothWays();
        wireRefused();
        wireCounts();
        letterRefused();
        letterNone();
        letterOfEach();
        check.end();
    }

    /** Seven things in four houses; a message, an answer and one of a WHEN are under way. */
    private static void underWay(PromiseWire x) {
        Edges.oneOfEach(x);
        x.ask(0, 0, 1, 0, 0, 0);
        x.flow(1);
        x.when(1, 0, 1);
        x.ask(3, 0, 6, 6, 9, 0);
    }

    // ---- 12: deliver

    private static void deliverRefused() {
        Refusals some = new Refusals(check, WireEdgesTest::underWay);
        for (int[] no : Edges.noWires()) {
            some.bad("deliver " + no[0] + " " + no[1], x -> x.deliver(no[0], no[1]));
        }
    }

    private static void deliverNone() {
        Refusals some = new Refusals(check, WireEdgesTest::underWay);
        for (int wire = 0; wire < 16; wire++) {
            int from = wire / 4;
            int to = wire % 4;
            boolean has = wire == 4 || wire == 5 || wire == 14;
            if (!has) {
                some.due("none on wire " + wire, NONE, x -> x.deliver(from, to));
            }
        }
        PromiseWire x = new PromiseWire();
        underWay(x);
        check.due("an answer", x.deliver(1, 0), 1);
        check.due("none is left", x.deliver(1, 0), NONE);
        check.due("of a WHEN", x.deliver(1, 1), 2);
        check.due("none is left", x.deliver(1, 1), NONE);
        check.due("a message", x.deliver(3, 2), 0);
        check.due("none is left", x.deliver(3, 2), NONE);
        x.cut(0, 1);
        check.due("none on a wire that is cut", x.deliver(0, 1), NONE);
    }

    private static void deliverOneAlone() {
        PromiseWire x = new PromiseWire();
        x.thing(1, 0, 0);
        x.ask(1, 0, 0, 2, 1, 0);
        x.ask(1, 0, 0, 2, 1, 0);
        x.ask(0, 0, 0, 2, 1, 0);
        check.due("one", x.deliver(1, 1), 0);
        check.due("one was heard", x.about(0, 2), 1);
        check.due("one is left", x.wire(1, 1), 1);
        check.due("one on the other wire", x.wire(0, 1), 1);
    }

    /** "behind those that go that way already": messages and answers by one wire keep their order. */
    private static void deliverKeepsOrder() {
        PromiseWire x = new PromiseWire();
        x.thing(0, 0, 0);
        x.thing(1, 0, 0);
        x.ask(0, 0, 1, 1, 1, 0);
        x.ask(1, 0, 0, 1, 2, 0);
        x.deliver(0, 1);
        x.ask(1, 0, 0, 1, 3, 0);
        int[] what = {0, 1, 0};
        int[] promise = {1, 0, 2};
        for (int i = 0; i < 3; i++) {
            check.due("letter " + i, x.letter(1, 0, i, 0), what[i]);
            check.due("its promise " + i, x.letter(1, 0, i, 1), promise[i]);
        }
        for (int i = 0; i < 3; i++) {
            check.due("delivered " + i, x.deliver(1, 0), what[i]);
        }
        check.due("the last is heard last", x.about(0, 2), 3);
    }

    // ---- 13: flow

    private static void flowRefused() {
        Refusals some = new Refusals(check, WireEdgesTest::underWay);
        for (int n : new int[] {0, -1, 101, MIN, MAX}) {
            some.bad("flow(" + n + ")", x -> x.flow(n));
        }
    }

    private static void flowBounds() {
        for (int n : new int[] {1, 2, 59, 60, 61, 99, 100}) {
            PromiseWire x = new PromiseWire();
            x.thing(1, 6, 1);
            for (int i = 0; i < 60; i++) {
                x.ask(1, 0, 0, 6, 1, 0);
            }
            int due = Math.min(n, 60);
            check.due("flow(" + n + ") of 60", x.flow(n), due);
            check.due("they were delivered", x.about(0, 7), due);
            check.due("the others were not", x.wire(1, 1), 60 - due);
            check.due("the rest", x.flow(100), 60 - due);
            check.due("none is left", x.flow(100), 0);
        }
        PromiseWire x = new PromiseWire();
        x.thing(1, 0, 0);
        for (int i = 0; i < 51; i++) {
            x.ask(0, 0, 0, 2, 1, 0);
        }
        check.due("a hundred at most, with the answers", x.flow(100), 100);
        check.due("two answers are left", x.count(3), 2);
        check.due("two", x.flow(100), 2);
    }

    private static void flowByFromThenTo() {
        PromiseWire x = new PromiseWire();
        for (int house = 0; house < 4; house++) {
            x.thing(house, 6, 1);
        }
        for (int wire = 15; wire >= 0; wire--) {
            x.ask(wire / 4, 0, wire % 4, 6, 1, 0);
        }
        for (int wire = 0; wire < 16; wire++) {
            check.due("flow(1)", x.flow(1), 1);
            check.due("wire " + wire + " is next", x.wire(wire / 4, wire % 4), 0);
            check.due("the others wait", x.count(3), 15 - wire);
            check.due("it is held", x.promise(15 - wire, 4), 1);
        }
    }

    /** "always the first of the first WIRE that has some": a new letter on a lower wire goes first. */
    private static void flowBeginsAnew() {
        PromiseWire x = new PromiseWire();
        x.thing(0, 0, 0);
        x.thing(3, 0, 0);
        x.guard(3, 0, 255, false);
        int sentOn = x.ask(3, 0, 2, 2, 5, 0);
        int behind = x.ask(3, 0, 1, 2, 5, 0);
        check.due("flow", x.flow(2), 2);
        check.due("what was sent on is heard", x.about(0, 2), 5);
        check.due("the other is not", x.about(1, 2), 0);
        check.due("flow", x.flow(1), 1);
        check.due("the answer goes first", x.state(sentOn, 3, 1), 5);
        check.due("the other is not heard", x.state(behind, 3, 0), OPEN);
        check.due("flow", x.flow(2), 1);
        check.due("the other", x.about(1, 2), 5);
    }

    // ---- 14: cut

    private static void cutRefused() {
        Scene two = x -> {
            underWay(x);
            x.cut(2, 1);
        };
        Refusals some = new Refusals(check, two);
        for (int[] no : Edges.noWires()) {
            some.bad("cut " + no[0] + " " + no[1], x -> x.cut(no[0], no[1]));
        }
        for (int house = 0; house < 4; house++) {
            int h = house;
            some.bad("a house with itself", x -> x.cut(h, h));
        }
        some.state("it is cut", x -> x.cut(2, 1));
        some.state("it is cut, both ways", x -> x.cut(1, 2));
    }

    private static void cutEachPair() {
        for (int a = 0; a < 4; a++) {
            for (int b = 0; b < 4; b++) {
                if (a == b) {
                    continue;
                }
                PromiseWire x = new PromiseWire();
                check.due("cut", x.cut(a, b), 0);
                check.due("one", x.count(5), 1);
                check.due("it is", x.cut(a, b), PromiseWire.STATE);
                check.due("both ways", x.cut(b, a), PromiseWire.STATE);
                for (int c = 0; c < 4; c++) {
                    for (int d = c + 1; d < 4; d++) {
                        boolean is = c == Math.min(a, b) && d == Math.max(a, b);
                        check.due("no other is cut", x.again(d, c), is ? 1 : PromiseWire.STATE);
                    }
                }
            }
        }
    }

    /** "one from each to itself (that is never cut)", though all others are. */
    private static void cutOwnWireNever() {
        PromiseWire x = new PromiseWire();
        for (int a = 0; a < 4; a++) {
            for (int b = a + 1; b < 4; b++) {
                check.due("cut", x.cut(a, b), 0);
            }
            check.due("itself", x.cut(a, a), PromiseWire.BAD);
        }
        check.due("six, one for both ways", x.count(5), 6);
        for (int house = 0; house < 4; house++) {
            x.thing(house, 0, 5);
            int p = x.ask(house, 0, house, 0, 0, 0);
            check.due("a letter", x.wire(house, house), 1);
            check.due("delivered", x.deliver(house, house), 0);
            check.due("heard", x.state(p, house, 1), 5);
        }
        for (int from = 0; from < 4; from++) {
            for (int to = 0; to < 4; to++) {
                if (from != to) {
                    int p = x.ask(from, 0, to, 0, 0, 0);
                    check.due("lost at once", x.state(p, from, 1), Talk.CUT);
                }
            }
        }
        check.due("none under way", x.count(3), 0);
    }

    private static void cutLosesNoOthers() {
        PromiseWire x = new PromiseWire();
        for (int house = 0; house < 4; house++) {
            x.thing(house, 6, 1);
        }
        for (int wire = 0; wire < 16; wire++) {
            x.ask(wire / 4, 0, wire % 4, 6, 1, 0);
        }
        check.due("one each way", x.cut(3, 1), 2);
        for (int wire = 0; wire < 16; wire++) {
            boolean lost = wire == 7 || wire == 13;
            check.due("wire " + wire, x.wire(wire / 4, wire % 4), lost ? 0 : 1);
            check.due("message " + wire, x.promise(wire, 4), lost ? 0 : 3);
        }
        check.due("two are no longer open", x.count(2), 14);
    }

    /** "how many LETTERS are lost": those that the wire had, both ways. */
    private static void cutCounts() {
        for (int up = 0; up <= 3; up++) {
            for (int down = 0; down <= 3; down++) {
                PromiseWire x = new PromiseWire();
                x.thing(0, 0, 0);
                x.thing(2, 0, 0);
                for (int i = 0; i < up; i++) {
                    x.ask(0, 0, 1, 0, 0, 0);
                }
                for (int i = 0; i < down; i++) {
                    x.ask(2, 0, 0, 0, 0, 0);
                }
                check.due("lost", up > down ? x.cut(0, 2) : x.cut(2, 0), up + down);
                check.due("none under way", x.count(3), 0);
                check.due("none is open", x.count(2), 0);
                check.due("none was heard", x.count(8), 0);
            }
        }
        PromiseWire x = new PromiseWire();
        x.thing(0, 0, 0);
        for (int i = 0; i < 100; i++) {
            x.ask(3, 0, 0, 0, 0, 0);
        }
        check.due("a hundred", x.cut(0, 3), 100);
        check.due("the last is broken", x.state(99, 3, 1), Talk.CUT);
    }

    private static void cutLowerHouseFirst() {
        for (int turned = 0; turned < 2; turned++) {
            PromiseWire x = new PromiseWire();
            x.thing(3, 0, 3);
            x.guard(1, 0, 255, false);
            x.thing(1, 0, 1);
            x.guard(3, 2, 255, false);
            int fromHigh = x.ask(0, 0, 3, 0, 0, 0);
            int fromLow = x.ask(0, 0, 1, 0, 0, 0);
            x.flow(2);
            int ofLow = x.ask(1, 1, fromLow, 0, 0, 0);
            x.deliver(1, 1);
            check.due("from 1", x.letter(1, 3, 0, 1), fromLow);
            check.due("from 3", x.letter(3, 1, 0, 1), fromHigh);
            x.thing(1, 0, 0);
            x.when(1, ofLow, 4);
            check.due("lost", turned == 0 ? x.cut(1, 3) : x.cut(3, 1), 2);
            check.due("its answer", x.letter(1, 0, 0, 1), fromLow);
            check.due("the other's answer", x.letter(3, 0, 0, 1), fromHigh);
            check.due("what waited", x.letter(1, 1, 0, 3), -Talk.CUT);
        }
        lowerFirstByOneWire(0, 3, 1);
        lowerFirstByOneWire(1, 2, 3);
        lowerFirstByOneWire(2, 3, 0);
    }

    /** Messages from the lower house and answers to it end in one line: all the messages are first. */
    private static void lowerFirstByOneWire(int low, int high, int asker) {
        for (int turned = 0; turned < 2; turned++) {
            PromiseWire x = new PromiseWire();
            x.thing(high, 0, 3);
            x.guard(low, 0, 255, false);
            for (int i = 0; i < 4; i++) {
                x.ask(asker, 0, 1, 0, 0, 0);
                x.deliver(asker, low);
            }
            x.deliver(low, high);
            x.deliver(low, high);
            check.due("lost", turned == 0 ? x.cut(low, high) : x.cut(high, low), 4);
            int[] order = {2, 3, 0, 1};
            for (int i = 0; i < 4; i++) {
                check.due("those from the lower first", x.letter(low, asker, i, 1), order[i]);
            }
        }
    }

    private static void cutEachWithWhatIsToBeDone() {
        PromiseWire x = new PromiseWire();
        x.thing(2, 0, 3);
        x.guard(1, 0, 255, false);
        int[] asked = new int[3];
        int[] waits = new int[3];
        int[] waitsOn = new int[3];
        for (int i = 0; i < 3; i++) {
            asked[i] = x.ask(0, 0, 1, 0, 0, 0);
            waits[i] = x.ask(0, 1, asked[i], 0, 0, 0);
            waitsOn[i] = x.ask(0, 1, waits[i], 0, 0, 0);
        }
        x.flow(9);
        check.due("three under way", x.wire(1, 2), 3);
        check.due("six wait", x.count(7), 6);
        check.due("three are lost", x.cut(1, 2), 3);
        for (int i = 0; i < 3; i++) {
            check.due("the lost one", x.letter(1, 0, 3 * i, 1), asked[i]);
            check.due("what waited", x.letter(1, 0, 3 * i + 1, 1), waits[i]);
            check.due("what waited for that", x.letter(1, 0, 3 * i + 2, 1), waitsOn[i]);
        }
    }

    /** What a lost letter has sent by the same wire, either way, is lost at once. */
    private static void cutBothWaysAtOnce() {
        PromiseWire x = new PromiseWire();
        x.thing(2, 0, 3);
        x.thing(1, 0, 0);
        x.thing(2, 0, 0);
        int p = x.ask(1, 0, 0, 0, 0, 0);
        x.when(1, p, 1);
        x.when(2, p, 2);
        check.due("one", x.cut(2, 1), 1);
        check.due("none there", x.wire(1, 2), 0);
        check.due("none back", x.wire(2, 1), 0);
        check.due("home: CUT", x.state(p, 2, 1), Talk.CUT);
        check.due("asker: CUT", x.state(p, 1, 1), Talk.CUT);
        check.due("asker's WHEN", x.letter(1, 1, 0, 3), -Talk.CUT);
        check.due("home's WHEN", x.letter(2, 2, 0, 3), -Talk.CUT);
        check.due("message, to HOME, to ASKER", x.promise(p, 3), 3);
    }

    /** "SETTLED in the HOUSE that sent it": the one that sent it on, not the one that asked. */
    private static void cutMessageSentOn() {
        PromiseWire x = new PromiseWire();
        x.thing(3, 0, 3);
        x.guard(2, 0, 255, false);
        x.guard(1, 1, 255, false);
        int p = x.ask(0, 0, 2, 0, 0, 0);
        x.flow(2);
        check.due("from house 2", x.wire(2, 3), 1);
        check.due("lost", x.cut(2, 3), 1);
        check.due("home 1 does not know", x.state(p, 1, 0), OPEN);
        check.due("a letter from 2 to 1", x.wire(2, 1), 1);
        check.due("it is an answer", x.letter(2, 1, 0, 0), 1);
        check.due("BROKEN", x.letter(2, 1, 0, 2), BROKEN);
        check.due("by CUT", x.letter(2, 1, 0, 3), Talk.CUT);
        x.deliver(2, 1);
        check.due("home 1", x.state(p, 1, 1), Talk.CUT);
        check.due("asker does not know", x.state(p, 0, 0), OPEN);
        x.deliver(1, 0);
        check.due("asker", x.state(p, 0, 1), Talk.CUT);
        check.due("asked, on, on, to HOME, to ASKER", x.promise(p, 3), 5);
    }

    // ---- what MOVE took

    private static void cutMoveComesBackFirst() {
        PromiseWire x = new PromiseWire();
        x.thing(1, 1, 9);
        x.thing(2, 1, 1);
        int one = x.ask(0, 0, 0, 4, 4, 1);
        int two = x.ask(0, 0, 0, 4, 5, 1);
        int three = x.ask(0, 0, 0, 4, 0, 1);
        x.flow(3);
        check.due("all is under way", x.about(0, 2), 0);
        check.due("as it was before", x.purses(), 10);
        check.due("three are lost", x.cut(1, 2), 3);
        check.due("all has come back", x.about(0, 2), 9);
        check.due("as it was before", x.purses(), 10);
        for (int p : new int[] {one, two, three}) {
            check.due("CUT", x.state(p, 1, 1), Talk.CUT);
        }
        x.flow(100);
        check.due("nothing comes later", x.about(1, 2), 1);
        int again = x.ask(0, 0, 0, 4, 9, 1);
        x.flow(100);
        check.due("sent by a cut wire: CUT", x.state(again, 0, 1), Talk.CUT);
        check.due("it has it", x.about(0, 2), 9);
        check.due("as it was before", x.purses(), 10);
    }

    /** It comes back to the NUMBER, however much that is by then: "all goes round". */
    private static void cutMoveGoesRound() {
        PromiseWire x = new PromiseWire();
        x.thing(0, 1, 9);
        x.thing(2, 1, 1);
        x.ask(0, 0, 0, 4, 9, 1);
        x.deliver(0, 0);
        x.ask(0, 0, 0, 2, MAX, 0);
        x.deliver(0, 0);
        check.due("as much as there can be", x.about(0, 2), MAX);
        x.cut(0, 2);
        check.due("it goes round", x.about(0, 2), MIN + 8);
        check.due("purses", x.purses(), (long) MIN + 9);
    }

    /** A MOVE that its own purse has not heard yet took nothing, nor does a GIVE come back. */
    private static void cutMoveToAnotherHouseAlone() {
        PromiseWire x = new PromiseWire();
        x.thing(0, 1, 9);
        x.thing(2, 1, 1);
        x.guard(2, 0, 255, false);
        x.ask(2, 0, 0, 4, 4, 1);
        x.ask(2, 0, 0, 2, 4, 0);
        x.ask(0, 0, 1, 2, 4, 0);
        x.ask(2, 0, 2, 4, 4, 1);
        x.deliver(2, 2);
        check.due("four are lost", x.cut(0, 2), 4);
        check.due("it has what it had", x.about(0, 2), 9);
        check.due("so has the other", x.about(1, 2), 1);
        x.again(0, 2);
        x.ask(0, 0, 0, 4, 4, 1);
        x.deliver(0, 0);
        x.deliver(0, 2);
        check.due("it has come", x.about(1, 2), 5);
        check.due("the answer is lost", x.cut(0, 2), 1);
        check.due("what has come stays", x.about(1, 2), 5);
        check.due("and is not given back", x.about(0, 2), 5);
    }

    // ---- answers and WHENS that are lost

    private static void cutAnswerToHome() {
        PromiseWire x = new PromiseWire();
        x.thing(2, 0, 3);
        x.guard(1, 0, 255, false);
        int p = x.ask(0, 0, 1, 7, 0, 0);
        int waiter = x.ask(0, 1, p, 0, 0, 0);
        x.flow(3);
        check.due("the answer is under way", x.letter(2, 1, 0, 2), THING);
        check.due("it waits", x.promise(p, 2), 1);
        check.due("lost", x.cut(1, 2), 1);
        check.due("home: BROKEN", x.state(p, 1, 0), BROKEN);
        check.due("home: CUT", x.state(p, 1, 1), Talk.CUT);
        check.due("what waited: CUT", x.state(waiter, 1, 1), Talk.CUT);
        check.due("the asker learns it by letter", x.state(p, 0, 0), OPEN);
        check.due("first the one", x.letter(1, 0, 0, 1), p);
        check.due("then the other", x.letter(1, 0, 1, 1), waiter);
        check.due("no more letters than those", x.promise(p, 3), 4);
    }

    private static void cutAnswerToAsker() {
        PromiseWire x = new PromiseWire();
        x.thing(2, 0, 3);
        x.thing(0, 0, 0);
        x.thing(0, 0, 0);
        int p = x.ask(0, 0, 0, 0, 0, 0);
        x.when(0, p, 2);
        x.when(0, p, 1);
        x.deliver(0, 2);
        check.due("lost", x.cut(2, 0), 1);
        check.due("home stays", x.state(p, 2, 0), NUMBER);
        check.due("home stays", x.state(p, 2, 1), 3);
        check.due("asker: BROKEN", x.state(p, 0, 0), BROKEN);
        check.due("asker: CUT", x.state(p, 0, 1), Talk.CUT);
        check.due("its WHENS are posted", x.wire(0, 0), 2);
        check.due("in order", x.letter(0, 0, 0, 4), 2);
        check.due("in order", x.letter(0, 0, 1, 4), 1);
        check.due("of CUT", x.letter(0, 0, 0, 3), -Talk.CUT);
        x.again(0, 2);
        int late = x.ask(0, 1, p, 0, 0, 0);
        x.flow(100);
        check.due("HOME knows a NUMBER: REFUSED", x.state(late, 0, 1), Talk.REFUSED);
    }

    private static void cutWhen() {
        PromiseWire x = new PromiseWire();
        x.thing(1, 0, 3);
        x.guard(0, 0, 255, false);
        x.thing(0, 0, 8);
        int p = x.ask(0, 0, 2, 0, 0, 0);
        x.when(0, p, 1);
        x.flow(2);
        check.due("sent on", x.letter(0, 1, 0, 0), 2);
        check.due("lost", x.cut(0, 1), 1);
        check.due("nothing comes of it", x.count(3), 0);
        check.due("not heard", x.about(0, 2), 3);
        check.due("one promise", x.count(1), 1);
        check.due("it stays", x.state(p, 0, 1), 8);
        check.due("one WHEN ever", x.count(4), 1);
    }

    private static void lostAtOnce() {
        PromiseWire x = new PromiseWire();
        x.thing(1, 0, 3);
        x.thing(0, 0, 0);
        x.guard(0, 0, 255, false);
        x.cut(0, 1);
        int p = x.ask(0, 0, 0, 1, 5, 0);
        check.due("asker: CUT", x.state(p, 0, 1), Talk.CUT);
        check.due("home: CUT", x.state(p, 1, 1), Talk.CUT);
        int q = x.ask(0, 1, p, 0, 0, 0);
        check.due("a promise out of reach: CUT", x.state(q, 0, 1), Talk.CUT);
        check.due("at its home, too", x.state(q, 1, 1), Talk.CUT);
        int fromHome = x.ask(1, 1, p, 0, 0, 0);
        x.deliver(1, 1);
        check.due("from HOME itself it is reached", x.state(fromHome, 1, 1), Talk.CUT);
        int sentOn = x.ask(0, 0, 2, 0, 0, 0);
        x.when(0, sentOn, 1);
        x.deliver(0, 0);
        check.due("lost as it is sent on", x.state(sentOn, 0, 1), Talk.CUT);
        check.due("its message and what it was sent on as", x.promise(sentOn, 3), 2);
        check.due("its WHEN is posted behind the turn", x.letter(0, 0, 0, 3), -Talk.CUT);
        check.due("not heard", x.about(0, 2), 3);
        x.again(0, 1);
        check.due("what was lost does not come back", x.wire(0, 1) + x.wire(1, 0), 0);
    }

    private static void lostAtOnceAnswers() {
        PromiseWire x = new PromiseWire();
        x.thing(1, 5, 2);
        x.guard(2, 0, 255, false);
        int direct = x.ask(0, 0, 0, 6, 1, 0);
        int guarded = x.ask(0, 0, 1, 6, 2, 0);
        int waiter = x.ask(0, 1, guarded, 0, 0, 0);
        x.deliver(0, 2);
        x.deliver(0, 2);
        x.deliver(0, 1);
        check.due("the last to join is under way", x.wire(2, 1), 1);
        x.cut(0, 1);
        x.deliver(2, 1);
        check.due("home: the sum", x.state(direct, 1, 1), 3);
        check.due("asker: BROKEN", x.state(direct, 0, 0), BROKEN);
        check.due("asker: CUT", x.state(direct, 0, 1), Talk.CUT);
        check.due("the other goes by another wire", x.letter(1, 2, 0, 3), 3);
        x.cut(1, 2);
        check.due("until that is cut", x.state(guarded, 2, 1), Talk.CUT);
        check.due("what waited", x.state(waiter, 2, 1), Talk.CUT);
        x.flow(100);
        check.due("its asker is told", x.state(guarded, 0, 1), Talk.CUT);
        check.due("both are", x.state(waiter, 0, 1), Talk.CUT);
    }

    /** An answer that HOME can't be told is as BROKEN by CUT there, and goes on to ASKER so. */
    private static void lostAtOnceToHome() {
        PromiseWire x = new PromiseWire();
        x.thing(1, 5, 2);
        x.guard(2, 0, 255, false);
        int guarded = x.ask(0, 0, 1, 6, 2, 0);
        int waiter = x.ask(0, 1, guarded, 0, 0, 0);
        x.flow(3);
        check.due("held", x.promise(guarded, 4), 1);
        check.due("waits", x.promise(guarded, 2), 1);
        check.due("none is lost", x.cut(2, 1), 0);
        int direct = x.ask(0, 0, 0, 6, 1, 0);
        x.deliver(0, 1);
        check.due("the joiner's house has the sum", x.state(direct, 1, 1), 3);
        check.due("home: BROKEN", x.state(guarded, 2, 0), BROKEN);
        check.due("home: CUT", x.state(guarded, 2, 1), Talk.CUT);
        check.due("what waited: CUT", x.state(waiter, 2, 1), Talk.CUT);
        check.due("a letter to the asker", x.letter(2, 0, 0, 1), guarded);
        check.due("BROKEN", x.letter(2, 0, 0, 2), BROKEN);
        check.due("by CUT", x.letter(2, 0, 0, 3), Talk.CUT);
        check.due("asked, sent on, to HOME, to ASKER", x.promise(guarded, 3), 4);
    }

    // ---- 15: again

    private static void againRefused() {
        Scene two = x -> {
            underWay(x);
            x.cut(2, 1);
        };
        Refusals some = new Refusals(check, two);
        for (int[] no : Edges.noWires()) {
            some.bad("again " + no[0] + " " + no[1], x -> x.again(no[0], no[1]));
        }
        for (int a = 0; a < 4; a++) {
            for (int b = 0; b < 4; b++) {
                int from = a;
                int to = b;
                if (a == b) {
                    some.bad("a house with itself", x -> x.again(from, to));
                } else if (a + b != 3 || a == 0 || b == 0) {
                    some.state("it was not cut", x -> x.again(from, to));
                }
            }
        }
    }

    private static void againBothWays() {
        for (int turned = 0; turned < 2; turned++) {
            PromiseWire x = new PromiseWire();
            x.thing(1, 0, 3);
            x.thing(2, 0, 4);
            x.cut(1, 2);
            x.cut(0, 1);
            check.due("again", turned == 0 ? x.again(1, 2) : x.again(2, 1), 1);
            check.due("once", x.again(1, 2), PromiseWire.STATE);
            check.due("the other stays cut", x.count(5), 1);
            int there = x.ask(1, 0, 1, 0, 0, 0);
            int back = x.ask(2, 0, 0, 0, 0, 0);
            check.due("there", x.wire(1, 2), 1);
            check.due("back", x.wire(2, 1), 1);
            x.flow(100);
            check.due("there", x.state(there, 1, 1), 4);
            check.due("back", x.state(back, 2, 1), 3);
            check.due("it is cut anew", x.cut(2, 1), 0);
        }
    }

    // ---- 16: wire

    private static void wireRefused() {
        Refusals some = new Refusals(check, WireEdgesTest::underWay);
        for (int[] no : Edges.noWires()) {
            some.bad("wire " + no[0] + " " + no[1], x -> x.wire(no[0], no[1]));
        }
    }

    private static void wireCounts() {
        PromiseWire x = new PromiseWire();
        x.thing(3, 6, 1);
        check.due("none", x.wire(0, 3), 0);
        for (int i = 1; i <= 100; i++) {
            x.ask(0, 0, 0, 6, 1, 0);
            check.due("one more", x.wire(0, 3), i);
        }
        x.deliver(0, 3);
        check.due("one less", x.wire(0, 3), 99);
        check.due("none the other way", x.wire(3, 0), 0);
        x.wake(0, 1);
        check.due("an answer is one, too", x.wire(3, 0), 1);
        x.cut(3, 0);
        check.due("none", x.wire(0, 3), 0);
        check.due("none", x.wire(3, 0), 0);
    }

    // ---- 17: letter

    private static void letterRefused() {
        Refusals some = new Refusals(check, WireEdgesTest::underWay);
        for (int[] no : Edges.noWires()) {
            some.bad("letter " + no[0] + " " + no[1], x -> x.letter(no[0], no[1], 0, 0));
        }
        for (int what : Edges.outside(5)) {
            some.bad("letter, what " + what, x -> x.letter(1, 0, 0, what));
            some.bad("BAD before NONE, what " + what, x -> x.letter(1, 0, 1, what));
        }
    }

    private static void letterNone() {
        Refusals some = new Refusals(check, WireEdgesTest::underWay);
        for (int what = 0; what <= 5; what++) {
            int w = what;
            for (int i : new int[] {-1, 1, MIN, MAX}) {
                some.due("no letter " + i, NONE, x -> x.letter(1, 0, i, w));
            }
            some.due("none on an empty wire", NONE, x -> x.letter(0, 1, 0, w));
        }
        PromiseWire x = new PromiseWire();
        x.thing(3, 6, 1);
        for (int i = 0; i < 100; i++) {
            x.ask(0, 0, 0, 6, i, 0);
        }
        check.due("the first", x.letter(0, 3, 0, 3), 0);
        check.due("the last", x.letter(0, 3, 99, 3), 99);
        check.due("behind the last", x.letter(0, 3, 100, 3), NONE);
        x.deliver(0, 3);
        check.due("0 is the first that is left", x.letter(0, 3, 0, 3), 1);
        check.due("the last", x.letter(0, 3, 98, 3), 99);
        check.due("behind the last", x.letter(0, 3, 99, 3), NONE);
    }

    private static void letterOfEach() {
        PromiseWire x = new PromiseWire();
        x.thing(1, 0, MIN);
        x.thing(1, 1, 5);
        x.ask(0, 0, 0, 7, MIN, 9);
        x.ask(0, 1, 0, 3, MAX, 9);
        x.ask(0, 0, 1, 4, -1, 1);
        x.ask(0, 0, 0, 0, 4, 9);
        expect(x, 0, 1, new int[][] {{0, 0, 7, MIN, 0, NONE}, {0, 1, 3, MAX, NONE, 0},
            {0, 2, 4, -1, 1, NONE}, {0, 3, 0, 4, 0, NONE}});
        x.when(1, 2, 0);
        x.flow(4);
        expect(x, 1, 0, new int[][] {{1, 0, THING, 0, NONE, NONE},
            {1, 2, BROKEN, Talk.REFUSED, NONE, NONE}, {1, 3, NUMBER, MIN, NONE, NONE}});
        expect(x, 1, 1, new int[][] {{0, 1, 3, MAX, 0, NONE},
            {2, NONE, 2, -Talk.REFUSED, 0, NONE}});
    }

    private static void expect(PromiseWire x, int from, int to, int[][] letters) {
        check.due("letters", x.wire(from, to), letters.length);
        for (int i = 0; i < letters.length; i++) {
            for (int what = 0; what <= 5; what++) {
                check.due("letter " + i + " from " + from + ", " + what,
                    x.letter(from, to, i, what), letters[i][what]);
            }
        }
    }
}
