import java.util.ArrayDeque;
import java.util.ArrayList;
import java.util.Deque;
import java.util.List;

/**
 * The document once more, sentence by sentence and with the Java library, for drawn runs to compare
 * the class with. It keeps what it knows in another way: an answer is not its message, what is held
 * or waits is in one row for all, and where a message is, is looked for.
 */
final class Model {
    private static final int BAD = -1, STATE = -2, FULL = -3, NONE = -9;
    private static final int OPEN = 0, NUMBER = 1, THING = 2, BROKEN = 3;
    private static final int CELL = 0, PURSE = 1, MAKER = 2, GUARD = 3, SWITCH = 4, JOINER = 5,
        SLEEPER = 6;
    private static final int GET = 0, SET = 1, GIVE = 2, TAKE = 3, MOVE = 4, MAKE = 5, JOIN = 6,
        WHO = 7;
    private static final int CUT = 1, POOR = 2, REFUSED = 3, SHUT = 4, NO_ROOM = 5;

    private record Answer(int how, int value) {
    }

    /** What comes of hearing, beside an answer. */
    private static final Answer SENT_ON = new Answer(-1, 0), HELD = new Answer(-2, 0);
    private static final Answer NOT_YET = new Answer(OPEN, 0);

    private record When(int promise, int house, int thing) {
    }

    /** A letter with a message, or (message is null) with an answer. */
    private record Letter(Message message, int promise, Answer answer) {
    }

    private static final class Message {
        int promise = NONE;
        int act;
        int n;
        int other = NONE;
        int thing = NONE;
        int ahead = NONE;
        int takenFrom = NONE;
        int heldBy = NONE;
    }

    private static final class Thing {
        int house;
        int kind;
        int number;
        int guards = NONE;
        int acts;
        int shut;
        int back;
    }

    private static final class Promise {
        int asker;
        int home;
        int letters;
        /** How it is in each house; null: the house is neither ASKER nor HOME. */
        final Answer[] in = new Answer[4];
    }

    private final List<Thing> things = new ArrayList<>();
    private final List<Promise> promises = new ArrayList<>();
    private final List<When> whens = new ArrayList<>();
    private final List<List<Letter>> wires = new ArrayList<>();
    private final boolean[] isCut = new boolean[16];
    private final List<Message> held = new ArrayList<>();
    private final List<Message> waiting = new ArrayList<>();
    private final Deque<Letter> toBeDone = new ArrayDeque<>();
    private int turns;
    private long traced;

    Model() {
        for (int wire = 0; wire < 16; wire++) {
            wires.add(new ArrayList<>());
        }
    }

    // ---- things

    int thing(int house, int kind, int n) {
        boolean may = kind == CELL || kind == MAKER || kind == PURSE && n >= 0
            || (kind == JOINER || kind == SLEEPER) && 1 <= n && n <= 20;
        return !within(house, 4) || !may ? BAD : newThing(house, kind, n);
    }

    int guard(int house, int thing, int acts, boolean taken) {
        if (!within(house, 4) || !within(thing, things.size()) || !within(acts, 256)) {
            return BAD;
        }
        int t = newThing(house, taken ? SWITCH : GUARD, 0);
        if (t != FULL) {
            things.get(t).guards = thing;
            things.get(t).acts = acts;
        }
        return t;
    }

    int shut(int thing, boolean is) {
        if (!isOfKind(thing, GUARD) && !isOfKind(thing, SWITCH)) {
            return BAD;
        }
        int was = things.get(thing).shut;
        things.get(thing).shut = is ? 1 : 0;
        return was;
    }

    int back(int thing) {
        if (!isOfKind(thing, SWITCH)) {
            return BAD;
        }
        int was = things.get(thing).back;
        things.get(thing).back = 1;
        return 1 - was;
    }

    int wake(int thing, int n) {
        if (!isOfKind(thing, SLEEPER)) {
            return BAD;
        }
        int woken = release(thing, n);
        doWhatIsToBeDone();
        return woken;
    }

    int about(int thing, int what) {
        if (!within(thing, things.size()) || !within(what, 8)) {
            return BAD;
        }
        Thing t = things.get(thing);
        return new int[] {t.house, t.kind, t.number, t.guards, t.acts, t.shut, t.back,
            heldBy(thing).size()}[what];
    }

    // ---- asks

    int ask(int house, int of, int to, int act, int n, int other) {
        boolean isThere = of == 0 && within(to, things.size())
            || of == 1 && within(to, promises.size());
        if (!within(house, 4) || !isThere || !within(act, 8)
            || act == MOVE && !within(other, things.size())) {
            return BAD;
        }
        if (of == 1 && promises.get(to).in[house] == null) {
            return STATE;
        }
        if (promises.size() == 100) {
            return FULL;
        }
        Promise p = new Promise();
        p.asker = house;
        p.home = of == 0 ? things.get(to).house : promises.get(to).home;
        p.in[p.asker] = NOT_YET;
        p.in[p.home] = NOT_YET;
        promises.add(p);
        Message m = new Message();
        m.promise = promises.size() - 1;
        m.act = act;
        m.n = n;
        m.other = other;
        m.thing = of == 0 ? to : NONE;
        m.ahead = of == 1 ? to : NONE;
        send(m, house);
        doWhatIsToBeDone();
        return m.promise;
    }

    int when(int house, int promise, int thing) {
        if (!within(house, 4) || !within(promise, promises.size())
            || !within(thing, things.size()) || things.get(thing).house != house) {
            return BAD;
        }
        if (promises.get(promise).in[house] == null) {
            return STATE;
        }
        if (whens.size() == 40) {
            return FULL;
        }
        When w = new When(promise, house, thing);
        whens.add(w);
        if (promises.get(promise).in[house] != NOT_YET) {
            post(w);
        }
        return whens.size();
    }

    int state(int promise, int house, int what) {
        if (!within(promise, promises.size()) || !within(house, 4) || !within(what, 2)) {
            return BAD;
        }
        Answer a = promises.get(promise).in[house];
        return a == null ? STATE : what == 0 ? a.how : a.value;
    }

    int promise(int promise, int what) {
        if (!within(promise, promises.size()) || !within(what, 5)) {
            return BAD;
        }
        Promise p = promises.get(promise);
        return new int[] {p.asker, p.home, waitingFor(promise).size(), p.letters,
            place(promise)}[what];
    }

    // ---- letters, wires

    int deliver(int from, int to) {
        if (!within(from, 4) || !within(to, 4)) {
            return BAD;
        }
        List<Letter> wire = wires.get(4 * from + to);
        if (wire.isEmpty()) {
            return NONE;
        }
        Letter letter = wire.remove(0);
        int what = whatItIs(letter);
        Message m = letter.message;
        if (m == null) {
            arrive(letter.promise, letter.answer, to);
        } else if (m.ahead == NONE) {
            hear(m);
        } else if (promises.get(m.ahead).in[to] == NOT_YET) {
            waiting.add(m);
        } else {
            sendOn(m);
        }
        doWhatIsToBeDone();
        return what;
    }

    int flow(int n) {
        if (n < 1 || n > 100) {
            return BAD;
        }
        int delivered = 0;
        while (delivered < n && count(3) > 0) {
            int wire = 0;
            while (wires.get(wire).isEmpty()) {
                wire++;
            }
            deliver(wire / 4, wire % 4);
            delivered++;
        }
        return delivered;
    }

    int cut(int a, int b) {
        if (!within(a, 4) || !within(b, 4) || a == b) {
            return BAD;
        }
        if (isCut[4 * a + b]) {
            return STATE;
        }
        isCut[4 * a + b] = true;
        isCut[4 * b + a] = true;
        int low = Math.min(a, b);
        int high = Math.max(a, b);
        return loseAll(low, high) + loseAll(high, low);
    }

    int again(int a, int b) {
        if (!within(a, 4) || !within(b, 4) || a == b) {
            return BAD;
        }
        if (!isCut[4 * a + b]) {
            return STATE;
        }
        isCut[4 * a + b] = false;
        isCut[4 * b + a] = false;
        return 1;
    }

    int wire(int from, int to) {
        return !within(from, 4) || !within(to, 4) ? BAD : wires.get(4 * from + to).size();
    }

    int letter(int from, int to, int i, int what) {
        if (!within(from, 4) || !within(to, 4) || !within(what, 6)) {
            return BAD;
        }
        List<Letter> wire = wires.get(4 * from + to);
        if (!within(i, wire.size())) {
            return NONE;
        }
        Letter letter = wire.get(i);
        Message m = letter.message;
        if (m == null) {
            return new int[] {1, letter.promise, letter.answer.how, letter.answer.value, NONE,
                NONE}[what];
        }
        return new int[] {whatItIs(letter), m.promise, m.act, m.n, m.thing, m.ahead}[what];
    }

    // ---- what is seen

    long purses() {
        long sum = 0;
        for (Thing t : things) {
            sum += t.kind == PURSE ? t.number : 0;
        }
        for (List<Letter> wire : wires) {
            for (Letter letter : wire) {
                boolean isMoved = letter.message != null && letter.message.takenFrom != NONE;
                sum += isMoved ? letter.message.n : 0;
            }
        }
        return sum;
    }

    int count(int what) {
        switch (what) {
            case 0: return things.size();
            case 1: return promises.size();
            case 2: return (int) promises.stream().filter(p -> p.in[p.home] == NOT_YET).count();
            case 3: return wires.stream().mapToInt(List::size).sum();
            case 4: return whens.size();
            case 5: return cuts();
            case 6: return held.size();
            case 7: return waiting.size();
            case 8: return turns;
            default: return BAD;
        }
    }

    long trace() {
        return traced;
    }

    // ---- how a KIND hears

    private void hear(Message m) {
        turns++;
        int thing = m.thing;
        int house = things.get(thing).house;
        Answer a = hearAs(things.get(thing).kind, thing, m);
        if (a == SENT_ON) {
            send(m, house);
        } else if (a == HELD) {
            m.heldBy = thing;
            held.add(m);
            int sum = heldBy(thing).stream().mapToInt(one -> one.n).sum();
            if (isOfKind(thing, JOINER) && heldBy(thing).size() >= things.get(thing).number) {
                release(thing, sum);
            }
        } else {
            settle(m, a, house);
        }
    }

    private Answer hearAs(int kind, int thing, Message m) {
        long mark = 1;
        for (int k = 0; k < kind; k++) {
            mark *= 10;
        }
        traced += mark;
        Thing t = things.get(thing);
        switch (kind) {
            case CELL: return cell(t, thing, m);
            case PURSE: return purse(t, thing, m);
            case MAKER: return maker(t, thing, m);
            case GUARD: return guardian(t, m);
            case SWITCH: return t.back == 1 ? broken(SHUT) : hearAs(GUARD, thing, m);
            case JOINER: return joiner(thing, m);
            default: return m.act == JOIN ? HELD : hearAs(JOINER, thing, m);
        }
    }

    private static Answer cell(Thing t, int thing, Message m) {
        int was = t.number;
        if (m.act == SET) {
            t.number = m.n;
        } else if (m.act == GIVE) {
            t.number += m.n;
        } else if (m.act == TAKE) {
            t.number -= m.n;
        } else if (m.act == WHO) {
            return new Answer(THING, thing);
        } else if (m.act != GET) {
            return broken(REFUSED);
        }
        return number(m.act == SET ? was : t.number);
    }

    private Answer purse(Thing t, int thing, Message m) {
        boolean isOfAnAmount = m.act == GIVE || m.act == TAKE || m.act == MOVE;
        if (m.act == SET || isOfAnAmount && m.n < 0
            || m.act == MOVE && !isOfKind(m.other, PURSE)) {
            return broken(REFUSED);
        }
        if (t.number < m.n && (m.act == TAKE || m.act == MOVE)) {
            return broken(POOR);
        }
        if (m.act == MOVE) {
            t.number -= m.n;
            m.takenFrom = thing;
            m.act = GIVE;
            m.thing = m.other;
            return SENT_ON;
        }
        m.takenFrom = NONE;
        return hearAs(CELL, thing, m);
    }

    private Answer maker(Thing t, int thing, Message m) {
        if (m.act == GET) {
            return number(t.number);
        }
        if (m.act == WHO) {
            return new Answer(THING, thing);
        }
        if (m.act != MAKE || !within(m.n, 3)) {
            return broken(REFUSED);
        }
        int made = newThing(t.house, m.n, 0);
        if (made == FULL) {
            return broken(NO_ROOM);
        }
        t.number++;
        return new Answer(THING, made);
    }

    private static Answer guardian(Thing t, Message m) {
        if (t.shut == 1) {
            return broken(SHUT);
        }
        if ((t.acts & 1 << m.act) == 0) {
            return broken(REFUSED);
        }
        m.thing = t.guards;
        return SENT_ON;
    }

    private Answer joiner(int thing, Message m) {
        switch (m.act) {
            case JOIN: return HELD;
            case GET: return number(heldBy(thing).size());
            case WHO: return new Answer(THING, thing);
            default: return broken(REFUSED);
        }
    }

    /** All that a thing has HELD ANSWER, in order. */
    private int release(int thing, int n) {
        List<Message> all = heldBy(thing);
        held.removeAll(all);
        for (Message m : all) {
            settle(m, number(n), things.get(thing).house);
        }
        return all.size();
    }

    // ---- how messages and answers go

    private void send(Message m, int from) {
        int to = m.thing == NONE ? promises.get(m.ahead).home : things.get(m.thing).house;
        dispatch(new Letter(m, m.promise, null), from, to);
    }

    private void dispatch(Letter letter, int from, int to) {
        if (letter.promise != NONE) {
            promises.get(letter.promise).letters++;
        }
        if (isCut[4 * from + to]) {
            lose(letter, from, to);
        } else {
            wires.get(4 * from + to).add(letter);
        }
    }

    private void lose(Letter letter, int from, int to) {
        Message m = letter.message;
        if (m == null) {
            arrive(letter.promise, broken(CUT), to);
            return;
        }
        if (m.takenFrom != NONE) {
            things.get(m.takenFrom).number += m.n;
        }
        settle(m, broken(CUT), from);
    }

    private int loseAll(int from, int to) {
        List<Letter> wire = wires.get(4 * from + to);
        int lost = 0;
        while (!wire.isEmpty()) {
            lose(wire.remove(0), from, to);
            doWhatIsToBeDone();
            lost++;
        }
        return lost;
    }

    private void settle(Message m, Answer a, int house) {
        if (m.promise == NONE) {
            return;
        }
        int home = promises.get(m.promise).home;
        Letter answer = new Letter(null, m.promise, a);
        if (house == home) {
            toBeDone.add(answer);
        } else {
            dispatch(answer, house, home);
        }
    }

    private void arrive(int promise, Answer a, int house) {
        Promise p = promises.get(promise);
        if (house == p.home) {
            toBeDone.add(new Letter(null, promise, a));
        } else {
            p.in[house] = a;
            postWhens(promise, house);
        }
    }

    private void doWhatIsToBeDone() {
        while (!toBeDone.isEmpty()) {
            Letter next = toBeDone.remove();
            Promise p = promises.get(next.promise);
            p.in[p.home] = next.answer;
            List<Message> all = waitingFor(next.promise);
            waiting.removeAll(all);
            all.forEach(this::sendOn);
            if (p.asker != p.home) {
                dispatch(next, p.home, p.asker);
            }
            postWhens(next.promise, p.home);
        }
    }

    private void sendOn(Message m) {
        Promise p = promises.get(m.ahead);
        Answer a = p.in[p.home];
        if (a.how == THING) {
            m.ahead = NONE;
            m.thing = a.value;
            send(m, p.home);
        } else {
            settle(m, a.how == NUMBER ? broken(REFUSED) : a, p.home);
        }
    }

    private void postWhens(int promise, int house) {
        whens.stream().filter(w -> w.promise == promise && w.house == house).forEach(this::post);
    }

    private void post(When w) {
        Answer a = promises.get(w.promise).in[w.house];
        Message m = new Message();
        m.act = GIVE;
        m.n = a.how == BROKEN ? -a.value : a.value;
        m.thing = w.thing;
        send(m, w.house);
    }

    // ---- looking

    private static boolean within(int n, int below) {
        return 0 <= n && n < below;
    }

    private static Answer number(int n) {
        return new Answer(NUMBER, n);
    }

    private static Answer broken(int reason) {
        return new Answer(BROKEN, reason);
    }

    private static int whatItIs(Letter letter) {
        return letter.message == null ? 1 : letter.promise == NONE ? 2 : 0;
    }

    private int newThing(int house, int kind, int n) {
        if (things.size() == 40) {
            return FULL;
        }
        Thing t = new Thing();
        t.house = house;
        t.kind = kind;
        t.number = n;
        things.add(t);
        return things.size() - 1;
    }

    private boolean isOfKind(int thing, int kind) {
        return within(thing, things.size()) && things.get(thing).kind == kind;
    }

    private List<Message> heldBy(int thing) {
        return held.stream().filter(m -> m.heldBy == thing).toList();
    }

    private List<Message> waitingFor(int promise) {
        return waiting.stream().filter(m -> m.ahead == promise).toList();
    }

    private int place(int promise) {
        if (held.stream().anyMatch(m -> m.promise == promise)) {
            return 1;
        }
        if (waiting.stream().anyMatch(m -> m.promise == promise)) {
            return 2;
        }
        return wires.stream().flatMap(List::stream)
            .anyMatch(l -> l.message != null && l.promise == promise) ? 3 : 0;
    }

    private int cuts() {
        int cuts = 0;
        for (int wire = 0; wire < 16; wire++) {
            cuts += isCut[wire] ? 1 : 0;
        }
        return cuts / 2;
    }
}
