/**
 * Things in four houses that send one another messages without waiting: each answer is a promise,
 * letters go by wires that keep order, and a wire that is cut breaks what it loses.
 */
public final class PromiseWire {
    public static final int BAD = -1, STATE = -2, FULL = -3, NONE = -9;
    public static final int OPEN = 0, NUMBER = 1, THING = 2, BROKEN = 3;

    private static final int HOUSES = 4;
    private static final int MOST_THINGS = 40, MOST_PROMISES = 100, MOST_WHENS = 40;
    private static final int MOST_HELD_FOR = 20, MOST_FLOW = 100, ALL_ACTS = 255;
    /** Far above what a call can have to do: each promise is done once, and there are 100. */
    private static final int MOST_TO_DO = 1000;

    private static final int CELL = 0, PURSE = 1, MAKER = 2, GUARD = 3, SWITCH = 4, JOINER = 5,
        SLEEPER = 6;
    private static final int GET = 0, SET = 1, GIVE = 2, TAKE = 3, MOVE = 4, MAKE = 5, JOIN = 6,
        WHO = 7;
    private static final int CUT = 1, POOR = 2, REFUSED = 3, SHUT = 4, NO_ROOM = 5;

    private static final int CELL_MARK = 1, PURSE_MARK = 10, MAKER_MARK = 100, GUARD_MARK = 1000,
        SWITCH_MARK = 10000, JOINER_MARK = 100000, SLEEPER_MARK = 1000000;

    /** Where a message is, in the numbers that promise(.., 4) tells. */
    private static final int SETTLED = 0, HELD = 1, WAITS = 2, LETTER = 3;

    /** What a letter is, in the numbers that deliver() tells. */
    private static final int A_MESSAGE = 0, AN_ANSWER = 1, OF_A_WHEN = 2;

    private final Thing[] things = new Thing[MOST_THINGS];
    private final Promise[] promises = new Promise[MOST_PROMISES];
    private final When[] whens = new When[MOST_WHENS];
    private final Wire[] wires = new Wire[HOUSES * HOUSES];
    private final Line toBeDone = new Line();
    private int thingCount;
    private int promiseCount;
    private int whenCount;
    private int turns;
    private long traced;

    public PromiseWire() {
        for (int i = 0; i < wires.length; i++) {
            wires[i] = new Wire(i / HOUSES, i % HOUSES);
        }
    }

    // ---- things

    public int thing(int house, int kind, int n) {
        if (!isHouse(house) || !mayBegin(kind, n)) {
            return BAD;
        }
        return addThing(house, kind, n, null, 0);
    }

    public int guard(int house, int thing, int acts, boolean taken) {
        Thing guarded = thingAt(thing);
        if (!isHouse(house) || guarded == null || acts < 0 || acts > ALL_ACTS) {
            return BAD;
        }
        return addThing(house, taken ? SWITCH : GUARD, 0, guarded, acts);
    }

    public int shut(int thing, boolean is) {
        Thing guard = thingAt(thing);
        if (guard == null || (guard.kind != GUARD && guard.kind != SWITCH)) {
            return BAD;
        }
        int was = oneIf(guard.isShut);
        guard.isShut = is;
        return was;
    }

    public int back(int thing) {
        Thing taken = thingAt(thing);
        if (taken == null || taken.kind != SWITCH) {
            return BAD;
        }
        int isNew = oneIf(!taken.isTakenBack);
        taken.isTakenBack = true;
        return isNew;
    }

    public int wake(int thing, int n) {
        Thing sleeper = thingAt(thing);
        if (sleeper == null || sleeper.kind != SLEEPER) {
            return BAD;
        }
        int woken = answerHeld(sleeper, n);
        doAll();
        return woken;
    }

    public int about(int thing, int what) {
        Thing one = thingAt(thing);
        if (one == null) {
            return BAD;
        }
        switch (what) {
            case 0: return one.house;
            case 1: return one.kind;
            case 2: return one.number;
            case 3: return one.guarded == null ? NONE : one.guarded.id;
            case 4: return one.acts;
            case 5: return oneIf(one.isShut);
            case 6: return oneIf(one.isTakenBack);
            case 7: return one.held.size;
            default: return BAD;
        }
    }

    // ---- asks

    public int ask(int house, int of, int to, int act, int n, int other) {
        Thing target = of == 0 ? thingAt(to) : null;
        Promise ahead = of == 1 ? promiseAt(to) : null;
        Thing second = act == MOVE ? thingAt(other) : null;
        if (!isHouse(house) || (target == null && ahead == null) || act < GET || act > WHO
            || (act == MOVE && second == null)) {
            return BAD;
        }
        if (ahead != null && !ahead.isKnownIn(house)) {
            return STATE;
        }
        if (promiseCount >= promises.length) {
            return FULL;
        }
        Message message = new Message(act, n, second);
        message.target = target;
        message.ahead = ahead;
        int home = message.destination();
        Promise promise = new Promise(promiseCount, house, home, message);
        message.promise = promise;
        promises[promiseCount] = promise;
        promiseCount++;
        send(message, house);
        doAll();
        return promise.id;
    }

    public int when(int house, int promise, int thing) {
        Promise awaited = promiseAt(promise);
        Thing told = thingAt(thing);
        if (!isHouse(house) || awaited == null || told == null || told.house != house) {
            return BAD;
        }
        if (!awaited.isKnownIn(house)) {
            return STATE;
        }
        if (whenCount >= whens.length) {
            return FULL;
        }
        When when = new When(awaited, house, told);
        whens[whenCount] = when;
        whenCount++;
        if (awaited.howIn(house) != OPEN) {
            postWhen(when);
        }
        return whenCount;
    }

    public int state(int promise, int house, int what) {
        Promise one = promiseAt(promise);
        if (one == null || !isHouse(house) || what < 0 || what > 1) {
            return BAD;
        }
        if (!one.isKnownIn(house)) {
            return STATE;
        }
        return what == 0 ? one.howIn(house) : one.valueIn(house);
    }

    public int promise(int promise, int what) {
        Promise one = promiseAt(promise);
        if (one == null) {
            return BAD;
        }
        switch (what) {
            case 0: return one.asker;
            case 1: return one.home;
            case 2: return one.waiting.size;
            case 3: return one.message.letters;
            case 4: return one.message.place;
            default: return BAD;
        }
    }

    // ---- letters, wires

    public int deliver(int from, int to) {
        Wire wire = wireAt(from, to);
        if (wire == null) {
            return BAD;
        }
        int what = deliverFirst(wire);
        doAll();
        return what;
    }

    public int flow(int n) {
        if (n < 1 || n > MOST_FLOW) {
            return BAD;
        }
        for (int delivered = 0; delivered < n; delivered++) {
            Wire wire = firstWireWithLetters();
            if (wire == null) {
                return delivered;
            }
            deliverFirst(wire);
            doAll();
        }
        return n;
    }

    public int cut(int a, int b) {
        Wire up = wireAt(Math.min(a, b), Math.max(a, b));
        Wire down = wireAt(Math.max(a, b), Math.min(a, b));
        if (up == null || down == null || a == b) {
            return BAD;
        }
        if (up.isCut) {
            return STATE;
        }
        up.isCut = true;
        down.isCut = true;
        // A cut wire takes no new letters, so these are all that it can lose from here on.
        int lost = up.letters.size + down.letters.size;
        for (int i = 0; i < lost; i++) {
            loseFirst(up.letters.size > 0 ? up : down);
            doAll();
        }
        return lost;
    }

    public int again(int a, int b) {
        Wire there = wireAt(a, b);
        Wire back = wireAt(b, a);
        if (there == null || back == null || a == b) {
            return BAD;
        }
        if (!there.isCut) {
            return STATE;
        }
        there.isCut = false;
        back.isCut = false;
        return 1;
    }

    public int wire(int from, int to) {
        Wire wire = wireAt(from, to);
        return wire == null ? BAD : wire.letters.size;
    }

    public int letter(int from, int to, int i, int what) {
        Wire wire = wireAt(from, to);
        if (wire == null || what < 0 || what > 5) {
            return BAD;
        }
        Message letter = wire.letters.at(i);
        if (letter == null) {
            return NONE;
        }
        switch (what) {
            case 0: return letter.whatLetter();
            case 1: return letter.promise == null ? NONE : letter.promise.id;
            case 2: return letter.isAnswer ? letter.how : letter.act;
            case 3: return letter.isAnswer ? letter.value : letter.n;
            case 4: return letter.isAnswer || letter.target == null ? NONE : letter.target.id;
            default: return letter.isAnswer || letter.ahead == null ? NONE : letter.ahead.id;
        }
    }

    // ---- what is seen

    public long purses() {
        long sum = 0;
        for (int i = 0; i < thingCount; i++) {
            Thing one = thingAt(i);
            if (one != null && one.kind == PURSE) {
                sum += one.number;
            }
        }
        for (int i = 0; i < wires.length; i++) {
            sum += wires[i] == null ? 0 : movedBy(wires[i]);
        }
        return sum;
    }

    public int count(int what) {
        switch (what) {
            case 0: return thingCount;
            case 1: return promiseCount;
            case 2: return openAtHome();
            case 3: return lettersUnderWay();
            case 4: return whenCount;
            case 5: return wiresCut();
            case 6: return messagesHeld();
            case 7: return messagesWaiting();
            case 8: return turns;
            default: return BAD;
        }
    }

    public long trace() {
        return traced;
    }

    // ---- looking things up

    private static boolean isHouse(int house) {
        return house >= 0 && house < HOUSES;
    }

    private static int oneIf(boolean is) {
        return is ? 1 : 0;
    }

    /** The thing of that number, or null. */
    private Thing thingAt(int id) {
        return id < 0 || id >= thingCount || id >= things.length ? null : things[id];
    }

    /** The promise of that number, or null. */
    private Promise promiseAt(int id) {
        return id < 0 || id >= promiseCount || id >= promises.length ? null : promises[id];
    }

    /** The wire between two houses, or null if one of them is no house. */
    private Wire wireAt(int from, int to) {
        if (from < 0 || from >= HOUSES || to < 0 || to >= HOUSES) {
            return null;
        }
        return wires[from * HOUSES + to];
    }

    private Wire firstWireWithLetters() {
        for (int i = 0; i < wires.length; i++) {
            Wire wire = wires[i];
            if (wire != null && wire.letters.size > 0) {
                return wire;
            }
        }
        return null;
    }

    // ---- new things

    private static boolean mayBegin(int kind, int n) {
        switch (kind) {
            case CELL:
            case MAKER:
                return true;
            case PURSE:
                return n >= 0;
            case JOINER:
            case SLEEPER:
                return n >= 1 && n <= MOST_HELD_FOR;
            default:
                return false;
        }
    }

    private int addThing(int house, int kind, int number, Thing guarded, int acts) {
        int id = thingCount;
        if (id >= things.length) {
            return FULL;
        }
        things[id] = new Thing(id, house, kind, number, guarded, acts);
        thingCount++;
        return id;
    }

    // ---- hearing: each answers where the message is then (SETTLED, HELD, or LETTER: sent on)

    private int hear(Thing thing, Message message) {
        switch (thing.kind) {
            case PURSE: return hearAsPurse(thing, message);
            case MAKER: return hearAsMaker(thing, message);
            case GUARD: return hearAsGuard(thing, message);
            case SWITCH: return hearAsSwitch(thing, message);
            case JOINER: return hearAsJoiner(thing, message);
            case SLEEPER: return hearAsSleeper(thing, message);
            default: return hearAsCell(thing, message);
        }
    }

    private int hearAsCell(Thing cell, Message message) {
        traced += CELL_MARK;
        int was = cell.number;
        switch (message.act) {
            case GET:
                return message.answer(NUMBER, was);
            case SET:
                cell.number = message.n;
                return message.answer(NUMBER, was);
            case GIVE:
                cell.number = was + message.n;
                return message.answer(NUMBER, cell.number);
            case TAKE:
                cell.number = was - message.n;
                return message.answer(NUMBER, cell.number);
            case WHO:
                return message.answer(THING, cell.id);
            default:
                return message.answer(BROKEN, REFUSED);
        }
    }

    private int hearAsPurse(Thing purse, Message message) {
        traced += PURSE_MARK;
        int act = message.act;
        boolean moves = act == GIVE || act == TAKE || act == MOVE;
        if (act == SET || (moves && message.n < 0)) {
            return message.answer(BROKEN, REFUSED);
        }
        if (act == MOVE && (message.other == null || message.other.kind != PURSE)) {
            return message.answer(BROKEN, REFUSED);
        }
        if ((act == TAKE || act == MOVE) && message.n > purse.number) {
            return message.answer(BROKEN, POOR);
        }
        if (act != MOVE) {
            return hearAsCell(purse, message);
        }
        purse.number -= message.n;
        message.act = GIVE;
        message.target = message.other;
        message.purse = purse;
        return LETTER;
    }

    private int hearAsMaker(Thing maker, Message message) {
        traced += MAKER_MARK;
        if (message.act == GET) {
            return message.answer(NUMBER, maker.number);
        }
        if (message.act == WHO) {
            return message.answer(THING, maker.id);
        }
        if (message.act != MAKE || message.n < CELL || message.n > MAKER) {
            return message.answer(BROKEN, REFUSED);
        }
        int made = addThing(maker.house, message.n, 0, null, 0);
        if (made == FULL) {
            return message.answer(BROKEN, NO_ROOM);
        }
        maker.number++;
        return message.answer(THING, made);
    }

    private int hearAsGuard(Thing guard, Message message) {
        traced += GUARD_MARK;
        if (guard.isShut) {
            return message.answer(BROKEN, SHUT);
        }
        if ((guard.acts >> message.act & 1) == 0) {
            return message.answer(BROKEN, REFUSED);
        }
        message.target = guard.guarded;
        return LETTER;
    }

    private int hearAsSwitch(Thing taken, Message message) {
        traced += SWITCH_MARK;
        return taken.isTakenBack ? message.answer(BROKEN, SHUT) : hearAsGuard(taken, message);
    }

    private int hearAsJoiner(Thing joiner, Message message) {
        traced += JOINER_MARK;
        switch (message.act) {
            case GET: return message.answer(NUMBER, joiner.held.size);
            case WHO: return message.answer(THING, joiner.id);
            case JOIN: return HELD;
            default: return message.answer(BROKEN, REFUSED);
        }
    }

    private int hearAsSleeper(Thing sleeper, Message message) {
        traced += SLEEPER_MARK;
        return message.act == JOIN ? HELD : hearAsJoiner(sleeper, message);
    }

    // ---- turns

    private void takeTurn(Thing thing, Message message) {
        turns++;
        switch (hear(thing, message)) {
            case LETTER:
                send(message, thing.house);
                break;
            case HELD:
                hold(thing, message);
                break;
            default:
                settle(message, thing.house);
        }
    }

    private void hold(Thing holder, Message message) {
        message.place = HELD;
        holder.held.add(message);
        if (holder.kind == JOINER && holder.held.size >= holder.number) {
            answerHeld(holder, holder.held.sumOfNs());
        }
    }

    private int answerHeld(Thing holder, int number) {
        int size = holder.held.size;
        for (int i = 0; i < size; i++) {
            Message message = holder.held.take();
            if (message != null) {
                message.answer(NUMBER, number);
                settle(message, holder.house);
            }
        }
        return size;
    }

    // ---- sending and settling

    /** Puts a letter on a wire; false: the wire is cut, and the letter is lost at once. */
    private boolean post(Message letter, int from, int to) {
        // A lost letter counts, too: promise(.., 3) tells all that there were.
        letter.letters++;
        Wire wire = wireAt(from, to);
        if (wire == null || wire.isCut) {
            return false;
        }
        wire.letters.add(letter);
        return true;
    }

    /** Sends a message from a house to the thing or the promise that it is for. */
    private void send(Message message, int from) {
        message.place = LETTER;
        if (!post(message, from, message.destination())) {
            message.breakByCut();
            settle(message, from);
        }
    }

    /** The message has its answer in this house; its promise's home is to learn it. */
    private void settle(Message message, int house) {
        message.place = SETTLED;
        Promise promise = message.promise;
        if (promise == null) {
            return;
        }
        message.isAnswer = true;
        if (house == promise.home) {
            toBeDone.add(message);
        } else if (!post(message, house, promise.home)) {
            message.breakByCut();
            toBeDone.add(message);
        }
    }

    // ---- what is to be done

    private void doAll() {
        for (int i = 0; i < MOST_TO_DO && toBeDone.size > 0; i++) {
            Message answer = toBeDone.take();
            if (answer != null && answer.promise != null) {
                fulfil(answer.promise, answer);
            }
        }
    }

    private void fulfil(Promise promise, Message answer) {
        promise.homeHow = answer.how;
        promise.homeValue = answer.value;
        int waiting = promise.waiting.size;
        for (int i = 0; i < waiting; i++) {
            Message message = promise.waiting.take();
            if (message != null) {
                sendOn(message, promise);
            }
        }
        if (promise.asker != promise.home && !post(answer, promise.home, promise.asker)) {
            answer.breakByCut();
            tellAsker(promise, answer);
        }
        postWhens(promise, promise.home);
    }

    private void tellAsker(Promise promise, Message answer) {
        promise.askerHow = answer.how;
        promise.askerValue = answer.value;
        postWhens(promise, promise.asker);
    }

    /** A message to a promise that is no longer open in its home goes where the answer says. */
    private void sendOn(Message message, Promise promise) {
        Thing answer = promise.homeHow == THING ? thingAt(promise.homeValue) : null;
        if (answer != null) {
            message.ahead = null;
            message.target = answer;
            send(message, promise.home);
        } else {
            message.answer(BROKEN, promise.homeHow == BROKEN ? promise.homeValue : REFUSED);
            settle(message, promise.home);
        }
    }

    private void postWhens(Promise promise, int house) {
        for (int i = 0; i < whenCount && i < whens.length; i++) {
            When when = whens[i];
            if (when != null && when.promise == promise && when.house == house) {
                postWhen(when);
            }
        }
    }

    private void postWhen(When when) {
        int value = when.promise.valueIn(when.house);
        boolean isBroken = when.promise.howIn(when.house) == BROKEN;
        Message message = new Message(GIVE, isBroken ? -value : value, null);
        message.target = when.thing;
        post(message, when.house, when.house);
    }

    // ---- delivering and losing

    /** Delivers the first letter of a wire and answers what it was; NONE if there is none. */
    private int deliverFirst(Wire wire) {
        Message letter = wire.letters.take();
        if (letter == null) {
            return NONE;
        }
        int what = letter.whatLetter();
        if (letter.isAnswer) {
            receiveAnswer(letter, wire.to);
            return what;
        }
        letter.purse = null;
        if (letter.ahead != null) {
            reachPromise(letter, letter.ahead);
        } else if (letter.target != null) {
            takeTurn(letter.target, letter);
        }
        return what;
    }

    private void reachPromise(Message message, Promise promise) {
        if (promise.homeHow == OPEN) {
            message.place = WAITS;
            promise.waiting.add(message);
        } else {
            sendOn(message, promise);
        }
    }

    private void receiveAnswer(Message answer, int house) {
        Promise promise = answer.promise;
        if (promise == null) {
            return;
        }
        if (house == promise.home) {
            toBeDone.add(answer);
        } else {
            tellAsker(promise, answer);
        }
    }

    private void loseFirst(Wire wire) {
        Message letter = wire.letters.take();
        if (letter == null) {
            return;
        }
        letter.breakByCut();
        if (letter.isAnswer) {
            receiveAnswer(letter, wire.to);
        } else {
            settle(letter, wire.from);
        }
    }

    // ---- counting

    private static long movedBy(Wire wire) {
        long sum = 0;
        Message letter = wire.letters.first;
        for (int i = 0; i < wire.letters.size && letter != null; i++) {
            sum += letter.purse == null ? 0 : letter.n;
            letter = letter.next;
        }
        return sum;
    }

    private int openAtHome() {
        int open = 0;
        for (int i = 0; i < promiseCount; i++) {
            Promise one = promiseAt(i);
            open += oneIf(one != null && one.homeHow == OPEN);
        }
        return open;
    }

    private int lettersUnderWay() {
        int letters = 0;
        for (int i = 0; i < wires.length; i++) {
            letters += wires[i] == null ? 0 : wires[i].letters.size;
        }
        return letters;
    }

    private int wiresCut() {
        int cuts = 0;
        for (int i = 0; i < wires.length; i++) {
            Wire wire = wires[i];
            cuts += oneIf(wire != null && wire.isCut && wire.from < wire.to);
        }
        return cuts;
    }

    private int messagesHeld() {
        int held = 0;
        for (int i = 0; i < thingCount; i++) {
            Thing one = thingAt(i);
            held += one == null ? 0 : one.held.size;
        }
        return held;
    }

    private int messagesWaiting() {
        int waiting = 0;
        for (int i = 0; i < promiseCount; i++) {
            Promise one = promiseAt(i);
            waiting += one == null ? 0 : one.waiting.size;
        }
        return waiting;
    }

    // ---- the parts

    private static final class Thing {
        final int id;
        final int house;
        final int kind;
        /** What a GUARD or a SWITCH guards; null of the others. */
        final Thing guarded;
        final int acts;
        final Line held = new Line();
        int number;
        boolean isShut;
        boolean isTakenBack;

        Thing(int id, int house, int kind, int number, Thing guarded, int acts) {
            this.id = id;
            this.house = house;
            this.kind = kind;
            this.number = number;
            this.guarded = guarded;
            this.acts = acts;
        }
    }

    /**
     * A message, which later carries its own answer: it is never in two places at once, so one
     * object and one link do for wires, for what is held, what waits and what is to be done.
     */
    private static final class Message {
        /** Null: a WHEN sent it. */
        Promise promise;
        int act;
        final int n;
        /** Of MOVE alone. */
        final Thing other;
        /** It goes to a thing (target) or to a promise (ahead); the other one is null. */
        Thing target;
        Promise ahead;
        /** From which MOVE took n, as long as that is under way. */
        Thing purse;
        boolean isAnswer;
        int how;
        int value;
        int place;
        int letters;
        Message next;

        Message(int act, int n, Thing other) {
            this.act = act;
            this.n = n;
            this.other = other;
        }

        int answer(int newHow, int newValue) {
            how = newHow;
            value = newValue;
            return SETTLED;
        }

        /** Its letter is lost; what MOVE took goes back to where it came from. */
        void breakByCut() {
            if (purse != null) {
                purse.number += n;
                purse = null;
            }
            answer(BROKEN, CUT);
        }

        int destination() {
            if (target != null) {
                return target.house;
            }
            return ahead == null ? NONE : ahead.home;
        }

        int whatLetter() {
            if (isAnswer) {
                return AN_ANSWER;
            }
            return promise == null ? OF_A_WHEN : A_MESSAGE;
        }
    }

    private static final class Promise {
        final int id;
        final int asker;
        final int home;
        final Message message;
        final Line waiting = new Line();
        int homeHow;
        int homeValue;
        int askerHow;
        int askerValue;

        Promise(int id, int asker, int home, Message message) {
            this.id = id;
            this.asker = asker;
            this.home = home;
            this.message = message;
        }

        boolean isKnownIn(int house) {
            return house == asker || house == home;
        }

        int howIn(int house) {
            return house == home ? homeHow : askerHow;
        }

        int valueIn(int house) {
            return house == home ? homeValue : askerValue;
        }
    }

    private static final class When {
        final Promise promise;
        final int house;
        final Thing thing;

        When(Promise promise, int house, Thing thing) {
            this.promise = promise;
            this.house = house;
            this.thing = thing;
        }
    }

    private static final class Wire {
        final int from;
        final int to;
        final Line letters = new Line();
        boolean isCut;

        Wire(int from, int to) {
            this.from = from;
            this.to = to;
        }
    }

    /** Messages in the order in which they came. */
    private static final class Line {
        Message first;
        Message last;
        int size;

        void add(Message message) {
            message.next = null;
            if (last == null) {
                first = message;
            } else {
                last.next = message;
            }
            last = message;
            size++;
        }

        /** Takes the first one out; null if there is none. */
        Message take() {
            Message taken = first;
            if (taken == null) {
                return null;
            }
            first = taken.next;
            if (first == null) {
                last = null;
            }
            taken.next = null;
            size--;
            return taken;
        }

        /** The message at a place from 0 on; null if there is none. */
        Message at(int i) {
            if (i < 0 || i >= size) {
                return null;
            }
            Message found = first;
            for (int k = 0; k < i && found != null; k++) {
                found = found.next;
            }
            return found;
        }

        int sumOfNs() {
            int sum = 0;
            Message one = first;
            for (int i = 0; i < size && one != null; i++) {
                sum += one.n;
                one = one.next;
            }
            return sum;
        }
    }
}
