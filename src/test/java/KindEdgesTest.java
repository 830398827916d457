/** The kinds of things at their edges (the document's terms): each ACT at and beyond its bounds. */
public final class KindEdgesTest {
    private static final int MIN = Integer.MIN_VALUE, MAX = Integer.MAX_VALUE;
    private static final Check check = new Check("KindEdgesTest");

    public static void main(String[] args) {
        cellGoesRound();
        cellRefusesOthers();
        purseRefused();
        purseTakesAllButNoMore();
        purseGoesRound();
        moveOfNoPurse();
        moveBounds();
        moveToItself();
        moveGoesRound();
        moveIsHeardByItsPurseThen();
        makerKinds();
        makerRefusesOthers();
        makerGoesRound();
        makerPlaces();
        guardEachAct();
        guardShutComesFirst();
        guardLooksAsItHears();
        guardsInARow();
        switchTakenBackComesFirst();
        switchLooksAsItHears();
        joinerBounds();
        joinerSums();
        joinerInOrder();
        joinerRefusesOthers();
        joinersAreApart();
        sleeperHoldsAnyNumber();
        sleeperUp();
        check.end();
    }

    // ---- CELL

    private static void cellGoesRound() {
        PromiseWire x = new PromiseWire();
        x.thing(3, 0, MAX);
        Talk talk = new Talk(check, x);
        talk.say(0, Talk.GIVE, 1).number(MIN, 1);
        talk.say(0, Talk.TAKE, 1).number(MAX, 1);
        talk.say(0, Talk.GIVE, MAX).number(-2, 1);
        talk.say(0, Talk.SET, MIN).number(-2, 1);
        talk.say(0, Talk.GET, 9).number(MIN, 1);
        talk.say(0, Talk.TAKE, MIN).number(0, 1);
        talk.say(0, Talk.TAKE, MIN).number(MIN, 1);
        talk.say(0, Talk.GIVE, MIN).number(0, 1);
        talk.say(0, Talk.GIVE, 0).number(0, 1);
        talk.say(0, Talk.TAKE, 0).number(0, 1);
        talk.say(0, Talk.GIVE, -1).number(-1, 1);
        talk.say(0, Talk.TAKE, -1).number(0, 1);
        talk.say(0, Talk.SET, 0).number(0, 1);
    }

    private static void cellRefusesOthers() {
        PromiseWire x = new PromiseWire();
        x.thing(0, 1, 3);
        x.thing(0, 0, 8);
        Talk talk = new Talk(check, x);
        for (int n : new int[] {MIN, 0, 2, MAX}) {
            talk.say(1, Talk.MOVE, n, 0).broken(Talk.REFUSED, 1);
            talk.say(1, Talk.MAKE, n).broken(Talk.REFUSED, 1);
            talk.say(1, Talk.JOIN, n).broken(Talk.REFUSED, 1);
        }
        talk.say(1, Talk.WHO, 0).thing(1, 1);
        talk.say(1, Talk.GET, 0).number(8, 1);
        check.due("nothing moved", x.about(0, 2), 3);
        check.due("nothing made", x.count(0), 2);
        check.due("nothing held", x.count(6), 0);
    }

    // ---- PURSE

    private static void purseRefused() {
        PromiseWire x = new PromiseWire();
        x.thing(1, 1, 5);
        x.thing(1, 1, 5);
        Talk talk = new Talk(check, x);
        for (int n : new int[] {MIN, -1, 0, 5, MAX}) {
            talk.say(0, Talk.SET, n).broken(Talk.REFUSED, 10);
        }
        for (int n : new int[] {MIN, -6, -1}) {
            talk.say(0, Talk.GIVE, n).broken(Talk.REFUSED, 10);
            talk.say(0, Talk.TAKE, n).broken(Talk.REFUSED, 10);
            talk.say(0, Talk.MOVE, n, 1).broken(Talk.REFUSED, 10);
        }
        // "others up": what a CELL refuses is refused there.
        talk.say(0, Talk.MAKE, 0).broken(Talk.REFUSED, 11);
        talk.say(0, Talk.JOIN, 0).broken(Talk.REFUSED, 11);
        talk.say(0, Talk.WHO, 0).thing(0, 11);
        talk.say(0, Talk.GET, -1).number(5, 11);
        check.due("the other has its own", x.about(1, 2), 5);
    }

    private static void purseTakesAllButNoMore() {
        PromiseWire x = new PromiseWire();
        x.thing(2, 1, 7);
        Talk talk = new Talk(check, x);
        talk.say(0, Talk.TAKE, 8).broken(Talk.POOR, 10);
        talk.say(0, Talk.TAKE, MAX).broken(Talk.POOR, 10);
        talk.say(0, Talk.TAKE, 0).number(7, 11);
        talk.say(0, Talk.GIVE, 0).number(7, 11);
        talk.say(0, Talk.TAKE, 7).number(0, 11);
        talk.say(0, Talk.TAKE, 1).broken(Talk.POOR, 10);
        talk.say(0, Talk.TAKE, 0).number(0, 11);
        talk.say(0, Talk.GIVE, MAX).number(MAX, 11);
        talk.say(0, Talk.TAKE, MAX).number(0, 11);
    }

    /** "32 bits, all goes round": a PURSE, too; what is below 0 then is less than any n. */
    private static void purseGoesRound() {
        PromiseWire x = new PromiseWire();
        x.thing(2, 1, MAX);
        x.thing(2, 1, 0);
        Talk talk = new Talk(check, x);
        talk.say(0, Talk.GIVE, 1).number(MIN, 11);
        talk.say(0, Talk.TAKE, 0).broken(Talk.POOR, 10);
        talk.say(0, Talk.TAKE, 1).broken(Talk.POOR, 10);
        talk.say(0, Talk.MOVE, 0, 1).broken(Talk.POOR, 10);
        talk.say(0, Talk.GIVE, MAX).number(-1, 11);
        talk.say(0, Talk.TAKE, 0).broken(Talk.POOR, 10);
        talk.say(0, Talk.GIVE, 1).number(0, 11);
        talk.say(0, Talk.MOVE, 0, 1).number(0, 21);
    }

    /** "REFUSED if the other THING is no PURSE", and that is looked at before it is POOR. */
    private static void moveOfNoPurse() {
        PromiseWire x = new PromiseWire();
        Edges.oneOfEach(x);
        Talk talk = new Talk(check, x);
        for (int kind : new int[] {0, 2, 3, 4, 5, 6}) {
            for (int n : new int[] {0, 7, 8, MAX}) {
                talk.say(1, Talk.MOVE, n, kind).broken(Talk.REFUSED, 10);
            }
        }
        check.due("it has what it had", x.about(1, 2), 7);
        check.due("none under way", x.count(3), 0);
    }

    private static void moveBounds() {
        PromiseWire x = new PromiseWire();
        x.thing(0, 1, 7);
        x.thing(0, 1, 1);
        Talk talk = new Talk(check, x);
        talk.say(0, Talk.MOVE, 8, 1).broken(Talk.POOR, 10);
        talk.say(0, Talk.MOVE, MAX, 1).broken(Talk.POOR, 10);
        check.due("nothing was taken", x.about(0, 2), 7);
        talk.say(0, Talk.MOVE, 0, 1).number(1, 21);
        talk.say(0, Talk.MOVE, 7, 1).number(8, 21);
        check.due("all was taken", x.about(0, 2), 0);
        check.due("all has come", x.about(1, 2), 8);
        talk.say(0, Talk.MOVE, 1, 1).broken(Talk.POOR, 10);
        talk.say(0, Talk.MOVE, 0, 1).number(8, 21);
    }

    private static void moveToItself() {
        PromiseWire x = new PromiseWire();
        x.thing(2, 1, 7);
        Talk talk = new Talk(check, x);
        talk.say(0, Talk.MOVE, 8, 0).broken(Talk.POOR, 10);
        talk.say(0, Talk.MOVE, 7, 0).number(7, 21);
        x.ask(2, 0, 0, 4, 7, 0);
        x.deliver(2, 2);
        check.due("it has none as it is under way", x.about(0, 2), 0);
        check.due("it goes to itself", x.letter(2, 2, 0, 4), 0);
        check.due("as GIVE", x.letter(2, 2, 0, 2), 2);
        x.deliver(2, 2);
        check.due("it has it again", x.about(0, 2), 7);
    }

    private static void moveGoesRound() {
        PromiseWire x = new PromiseWire();
        x.thing(0, 1, MAX);
        x.thing(0, 1, MAX);
        Talk talk = new Talk(check, x);
        talk.say(0, Talk.MOVE, MAX, 1).number(-2, 21);
        check.due("all was taken", x.about(0, 2), 0);
    }

    /** What a purse has is looked at as it hears the message, not as that is asked. */
    private static void moveIsHeardByItsPurseThen() {
        PromiseWire x = new PromiseWire();
        x.thing(0, 1, 5);
        x.thing(0, 1, 0);
        int first = x.ask(0, 0, 0, 4, 5, 1);
        int poor = x.ask(0, 0, 0, 4, 5, 1);
        int back = x.ask(0, 0, 1, 4, 5, 0);
        x.deliver(0, 0);
        x.deliver(0, 0);
        check.due("the second is too late", x.state(poor, 0, 1), Talk.POOR);
        x.deliver(0, 0);
        check.due("what is under way is not there yet", x.state(back, 0, 1), Talk.POOR);
        check.due("the first is not done yet", x.state(first, 0, 0), PromiseWire.OPEN);
        x.deliver(0, 0);
        check.due("the first", x.state(first, 0, 1), 5);
        check.due("no more under way", x.count(3), 0);
    }

    // ---- MAKER

    private static void makerKinds() {
        PromiseWire x = new PromiseWire();
        x.thing(3, 2, -1);
        Talk talk = new Talk(check, x);
        for (int n : new int[] {-1, 3, 4, 5, 6, 7, MIN, MAX}) {
            talk.say(0, Talk.MAKE, n).broken(Talk.REFUSED, 100);
        }
        check.due("none was made", x.count(0), 1);
        talk.say(0, Talk.GET, 0).number(-1, 100);
        for (int kind = 0; kind <= 2; kind++) {
            talk.say(0, Talk.MAKE, kind).thing(kind + 1, 100);
            int[] due = {3, kind, 0, PromiseWire.NONE, 0, 0, 0, 0};
            for (int what = 0; what <= 7; what++) {
                check.due("made, " + what, x.about(kind + 1, what), due[what]);
            }
            talk.say(0, Talk.GET, 0).number(kind, 100);
        }
        talk.say(3, Talk.MAKE, 1).thing(4, 100);
        check.due("the maker that was made counts", x.about(3, 2), 1);
        check.due("the first does not", x.about(0, 2), 2);
    }

    private static void makerRefusesOthers() {
        PromiseWire x = new PromiseWire();
        x.thing(1, 2, 6);
        x.thing(1, 1, 6);
        Talk talk = new Talk(check, x);
        for (int act : new int[] {Talk.SET, Talk.GIVE, Talk.TAKE, Talk.JOIN}) {
            talk.say(0, act, 1).broken(Talk.REFUSED, 100);
            talk.say(0, act, 0).broken(Talk.REFUSED, 100);
        }
        talk.say(0, Talk.MOVE, 1, 1).broken(Talk.REFUSED, 100);
        talk.say(0, Talk.WHO, 5).thing(0, 100);
        talk.say(0, Talk.GET, 5).number(6, 100);
        check.due("none was made", x.count(0), 2);
    }

    private static void makerGoesRound() {
        PromiseWire x = new PromiseWire();
        x.thing(1, 2, MAX);
        Talk talk = new Talk(check, x);
        talk.say(0, Talk.MAKE, 0).thing(1, 100);
        talk.say(0, Talk.GET, 0).number(MIN, 100);
        talk.say(0, Talk.MAKE, 2).thing(2, 100);
        talk.say(0, Talk.GET, 0).number(MIN + 1, 100);
    }

    /** "(FULL: 40)": the fortieth is made; then none, whoever makes it. */
    private static void makerPlaces() {
        for (int kind = 0; kind <= 2; kind++) {
            PromiseWire x = new PromiseWire();
            x.thing(2, 2, 0);
            for (int i = 1; i < 39; i++) {
                x.thing(0, 0, 0);
            }
            Talk talk = new Talk(check, x);
            talk.say(0, Talk.MAKE, kind).thing(39, 100);
            check.due("the fortieth is of its kind", x.about(39, 1), kind);
            for (int n = 0; n <= 2; n++) {
                talk.say(0, Talk.MAKE, n).broken(Talk.NO_ROOM, 100);
            }
            talk.say(0, Talk.MAKE, 3).broken(Talk.REFUSED, 100);
            talk.say(0, Talk.MAKE, -1).broken(Talk.REFUSED, 100);
            check.due("none but the one is counted", x.about(0, 2), 1);
            check.due("forty", x.count(0), 40);
        }
        PromiseWire x = new PromiseWire();
        x.thing(2, 2, 0);
        x.ask(2, 0, 0, 5, 0, 0);
        for (int i = 1; i < 40; i++) {
            x.thing(0, 0, 0);
        }
        x.flow(100);
        check.due("it is looked at as it hears", x.state(0, 2, 1), Talk.NO_ROOM);
    }

    // ---- GUARD

    private static void guardEachAct() {
        for (int bit = 0; bit <= 7; bit++) {
            PromiseWire x = new PromiseWire();
            x.thing(0, 0, 5);
            x.guard(0, 0, 1 << bit, false);
            x.guard(0, 0, 255 ^ 1 << bit, false);
            x.guard(0, 0, 0, false);
            x.guard(0, 0, 255, false);
            x.guard(0, 0, 1 << bit, true);
            long[] whole = {0, 1000, 1000, 1000, 1000, 11000};
            for (int act = 0; act <= 7; act++) {
                boolean[] lets = {true, act == bit, act != bit, false, true, act == bit};
                for (int guard = 1; guard <= 5; guard++) {
                    hearsOrNot(x, guard, act, whole[guard], lets[guard]);
                }
            }
        }
    }

    private static void hearsOrNot(PromiseWire x, int guard, int act, long mark, boolean lets) {
        long before = x.trace();
        int p = x.ask(0, 0, guard, act, 1, 0);
        x.flow(100);
        String call = "guard " + guard + " with acts " + x.about(guard, 4) + ", act " + act;
        check.due(call, x.trace() - before, lets ? mark + 1 : mark);
        if (!lets) {
            check.due(call + " is refused", x.state(p, 0, 1), Talk.REFUSED);
        }
    }

    private static void guardShutComesFirst() {
        PromiseWire x = new PromiseWire();
        x.thing(0, 0, 5);
        x.guard(0, 0, 1, false);
        Talk talk = new Talk(check, x);
        x.shut(1, true);
        talk.say(1, Talk.GET, 0).broken(Talk.SHUT, 1000);
        talk.say(1, Talk.SET, 0).broken(Talk.SHUT, 1000);
        talk.say(1, Talk.WHO, 0).broken(Talk.SHUT, 1000);
        x.shut(1, false);
        talk.say(1, Talk.GET, 0).number(5, 1001);
        talk.say(1, Talk.SET, 0).broken(Talk.REFUSED, 1000);
        talk.say(1, Talk.WHO, 0).broken(Talk.REFUSED, 1000);
    }

    private static void guardLooksAsItHears() {
        PromiseWire x = new PromiseWire();
        x.thing(1, 0, 5);
        x.guard(0, 0, 255, false);
        int shutThen = x.ask(0, 0, 1, 0, 0, 0);
        x.shut(1, true);
        x.deliver(0, 0);
        check.due("shut as it hears", x.state(shutThen, 0, 1), Talk.SHUT);
        int openThen = x.ask(0, 0, 1, 7, 0, 0);
        x.shut(1, false);
        x.deliver(0, 0);
        x.shut(1, true);
        x.flow(100);
        check.due("what it let through goes on", x.state(openThen, 0, 0), PromiseWire.THING);
        check.due("WHO is the thing that hears", x.state(openThen, 0, 1), 0);
    }

    /** As many guards as there is room for, one before the other: each hears, each sends on. */
    private static void guardsInARow() {
        PromiseWire x = new PromiseWire();
        x.thing(0, 0, 5);
        for (int i = 1; i < 40; i++) {
            x.guard(i % 4, i - 1, 255, i % 2 == 0);
        }
        int p = x.ask(3, 0, 39, 2, 4, 0);
        check.due("forty, and the answer to HOME", x.flow(100), 41);
        check.due("home", x.promise(p, 1), 3);
        check.due("letters", x.promise(p, 3), 41);
        check.due("turns", x.count(8), 40);
        check.due("trace", x.trace(), 20 * 1000 + 19 * 11000 + 1);
        check.due("answer", x.state(p, 3, 1), 9);
    }

    // ---- SWITCH

    private static void switchTakenBackComesFirst() {
        PromiseWire x = new PromiseWire();
        x.thing(0, 0, 5);
        x.guard(0, 0, 1, true);
        x.guard(0, 0, 1, true);
        Talk talk = new Talk(check, x);
        x.shut(1, true);
        talk.say(1, Talk.GET, 0).broken(Talk.SHUT, 11000);
        talk.say(1, Talk.SET, 0).broken(Talk.SHUT, 11000);
        x.shut(1, false);
        talk.say(1, Talk.GET, 0).number(5, 11001);
        talk.say(1, Talk.SET, 0).broken(Talk.REFUSED, 11000);
        x.back(1);
        talk.say(1, Talk.GET, 0).broken(Talk.SHUT, 10000);
        talk.say(1, Talk.SET, 0).broken(Talk.SHUT, 10000);
        x.shut(1, true);
        talk.say(1, Talk.GET, 0).broken(Talk.SHUT, 10000);
        x.shut(1, false);
        talk.say(1, Talk.GET, 0).broken(Talk.SHUT, 10000);
        talk.say(2, Talk.GET, 0).number(5, 11001);
    }

    private static void switchLooksAsItHears() {
        PromiseWire x = new PromiseWire();
        x.thing(1, 0, 5);
        x.guard(0, 0, 255, true);
        int through = x.ask(0, 0, 1, 0, 0, 0);
        int late = x.ask(0, 0, 1, 0, 0, 0);
        x.deliver(0, 0);
        x.back(1);
        x.flow(100);
        check.due("what it let through goes on", x.state(through, 0, 1), 5);
        check.due("the next is too late", x.state(late, 0, 1), Talk.SHUT);
    }

    // ---- JOINER

    /** "with it as many as its NUMBER is": one less are HELD, the one that makes it up is none. */
    private static void joinerBounds() {
        for (int number : new int[] {1, 2, 3, 19, 20}) {
            PromiseWire x = new PromiseWire();
            x.thing(1, 5, number);
            for (int round = 0; round < 2; round++) {
                for (int i = 1; i < number; i++) {
                    x.ask(1, 0, 0, 6, i, 0);
                    x.flow(100);
                    check.due("held, of " + number, x.about(0, 7), i);
                }
                check.due("all open", x.count(2), number - 1);
                Talk talk = new Talk(check, x);
                talk.say(0, Talk.JOIN, 100).number(100 + number * (number - 1) / 2, 100000);
                check.due("none is held", x.about(0, 7), 0);
                check.due("none is open", x.count(2), 0);
                check.due("its number stays", x.about(0, 2), number);
            }
            check.due("the first knows the sum", x.state(0, 1, 1),
                100 + number * (number - 1) / 2);
        }
    }

    private static void joinerSums() {
        int[][] cases = {{MAX, 1, MIN}, {MIN, -1, MAX}, {MIN, MIN, 0}, {MAX, MAX, -2}, {0, 0, 0},
            {-5, 3, -2}};
        for (int[] one : cases) {
            PromiseWire x = new PromiseWire();
            x.thing(0, 5, 2);
            Talk talk = new Talk(check, x);
            talk.say(0, Talk.JOIN, one[0]).held(100000);
            talk.say(0, Talk.JOIN, one[1]).number(one[2], 100000);
            check.due("the first has the same", x.state(0, 0, 1), one[2]);
        }
    }

    private static void joinerInOrder() {
        PromiseWire x = new PromiseWire();
        x.thing(1, 5, 3);
        int third = x.ask(2, 0, 0, 6, 1, 0);
        int first = x.ask(0, 0, 0, 6, 2, 0);
        int second = x.ask(0, 0, 0, 6, 4, 0);
        int[] came = {first, second, third};
        for (int i = 0; i < 3; i++) {
            x.thing(1, 0, 0);
            x.when(1, came[2 - i], x.count(0) - 1);
        }
        x.flow(2);
        check.due("two are held", x.about(0, 7), 2);
        check.due("none is done", x.wire(1, 1), 0);
        check.due("the last comes", x.deliver(2, 1), 0);
        check.due("the first's answer", x.letter(1, 0, 0, 1), first);
        check.due("the second's answer", x.letter(1, 0, 1, 1), second);
        check.due("the third's answer", x.letter(1, 2, 0, 1), third);
        for (int i = 0; i < 3; i++) {
            check.due("done in the order in which they came", x.letter(1, 1, i, 4), 3 - i);
            check.due("the sum", x.letter(1, 1, i, 3), 7);
        }
    }

    private static void joinerRefusesOthers() {
        PromiseWire x = new PromiseWire();
        x.thing(0, 5, 3);
        x.thing(0, 1, 3);
        Talk talk = new Talk(check, x);
        talk.say(0, Talk.GET, 9).number(0, 100000);
        talk.say(0, Talk.JOIN, 9).held(100000);
        talk.say(0, Talk.GET, 9).number(1, 100000);
        for (int act : new int[] {Talk.SET, Talk.GIVE, Talk.TAKE, Talk.MAKE}) {
            talk.say(0, act, 1).broken(Talk.REFUSED, 100000);
        }
        talk.say(0, Talk.MOVE, 1, 1).broken(Talk.REFUSED, 100000);
        talk.say(0, Talk.WHO, 1).thing(0, 100000);
        check.due("its number stays", x.about(0, 2), 3);
        check.due("one is held", x.about(0, 7), 1);
        talk.say(0, Talk.JOIN, 9).held(100000);
        talk.say(0, Talk.GET, 9).number(2, 100000);
        talk.say(0, Talk.JOIN, 9).number(27, 100000);
        talk.say(0, Talk.GET, 9).number(0, 100000);
    }

    private static void joinersAreApart() {
        PromiseWire x = new PromiseWire();
        x.thing(0, 5, 2);
        x.thing(0, 5, 2);
        x.guard(0, 1, 255, false);
        Talk talk = new Talk(check, x);
        talk.say(0, Talk.JOIN, 1).held(100000);
        talk.say(1, Talk.JOIN, 2).held(100000);
        talk.say(2, Talk.JOIN, 4).number(6, 101000);
        check.due("the first holds on", x.about(0, 7), 1);
        talk.say(0, Talk.JOIN, 8).number(9, 100000);
    }

    // ---- SLEEPER

    private static void sleeperHoldsAnyNumber() {
        for (int number : new int[] {1, 2, 20}) {
            PromiseWire x = new PromiseWire();
            x.thing(0, 6, number);
            Talk talk = new Talk(check, x);
            for (int i = 1; i <= 22; i++) {
                talk.say(0, Talk.JOIN, i).held(1000000);
            }
            check.due("all are held", x.about(0, 7), 22);
            talk.say(0, Talk.GET, 0).number(22, 1100000);
        }
    }

    private static void sleeperUp() {
        PromiseWire x = new PromiseWire();
        x.thing(0, 6, 1);
        x.thing(0, 1, 5);
        Talk talk = new Talk(check, x);
        talk.say(0, Talk.GET, 0).number(0, 1100000);
        talk.say(0, Talk.WHO, 0).thing(0, 1100000);
        for (int act : new int[] {Talk.SET, Talk.GIVE, Talk.TAKE, Talk.MAKE}) {
            talk.say(0, act, 1).broken(Talk.REFUSED, 1100000);
        }
        talk.say(0, Talk.MOVE, 1, 1).broken(Talk.REFUSED, 1100000);
        check.due("its number stays", x.about(0, 2), 1);
        check.due("none is held", x.about(0, 7), 0);
    }
}
