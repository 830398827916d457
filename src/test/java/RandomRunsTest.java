import java.util.Random;

/** Long runs of drawn calls (the same in each run of the test), with what must hold in any state. */
public final class RandomRunsTest {
    private static final int RUNS = 1500, CALLS = 300;
    private static final Check check = new Check("RandomRunsTest");

    public static void main(String[] args) {
        for (int run = 0; run < RUNS; run++) {
            Random random = new Random(run);
            PromiseWire x = new PromiseWire();
            boolean isWild = run % 5 == 0;
            for (int call = 0; call < CALLS; call++) {
                oneCall(x, random, isWild);
                if (call % 10 == 0) {
                    sumsHold(x);
                    promisesHold(x);
                }
            }
            comesToRest(x);
        }
        check.end();
    }

    private static int draw(Random random, int below, boolean isWild) {
        if (isWild && random.nextInt(20) == 0) {
            int[] odd = {-1, below, Integer.MIN_VALUE, Integer.MAX_VALUE, -9, 1000};
            return odd[random.nextInt(odd.length)];
        }
        return below <= 0 ? 0 : random.nextInt(below);
    }

    private static void oneCall(PromiseWire x, Random random, boolean isWild) {
        String before = isWild ? Seen.all(x) : "";
        int things = x.count(0);
        int promises = x.count(1);
        int house = draw(random, 4, isWild);
        int other = draw(random, 4, isWild);
        int t = draw(random, things, isWild);
        int p = draw(random, promises, isWild);
        int n = draw(random, 12, isWild);
        int answer;
        switch (random.nextInt(16)) {
            case 0: answer = x.thing(house, draw(random, 7, isWild), n); break;
            case 1: answer = x.guard(house, t, 255 - random.nextInt(40), random.nextBoolean()); break;
            case 2: answer = x.shut(t, random.nextInt(4) == 0); break;
            case 3: answer = random.nextInt(6) == 0 ? x.back(t) : x.deliver(house, other); break;
            case 4: answer = x.wake(t, n); break;
            case 5: case 6: case 7:
                answer = x.ask(house, 0, t, draw(random, 8, isWild), n,
                    draw(random, things, isWild));
                break;
            case 8: case 9:
                answer = x.ask(house, 1, p, draw(random, 8, isWild), n,
                    draw(random, things, isWild));
                break;
            case 10: answer = x.when(house, p, t); break;
            case 11: answer = random.nextInt(3) == 0 ? x.cut(house, other) : x.again(house, other); break;
            case 12: answer = x.flow(draw(random, 6, isWild)); break;
            default: answer = x.deliver(house, other);
        }
        if (isWild && (answer == PromiseWire.BAD || answer == PromiseWire.STATE
            || answer == PromiseWire.FULL)) {
            check.isTrue("a refused call changes nothing", Seen.all(x).equals(before));
        }
    }

    private static void sumsHold(PromiseWire x) {
        int letters = 0;
        for (int wire = 0; wire < 16; wire++) {
            int from = wire / 4;
            int to = wire % 4;
            letters += x.wire(from, to);
            check.due("behind the last", x.letter(from, to, x.wire(from, to), 0),
                PromiseWire.NONE);
        }
        check.due("letters", letters, x.count(3));
        int held = 0;
        for (int t = 0; t < x.count(0); t++) {
            held += x.about(t, 7);
            boolean isJoiner = x.about(t, 1) == 5;
            check.isTrue("a joiner holds less than its number",
                !isJoiner || x.about(t, 7) < x.about(t, 2));
        }
        check.due("held", held, x.count(6));
    }

    private static void promisesHold(PromiseWire x) {
        int[] places = new int[4];
        int open = 0;
        int waiting = 0;
        for (int p = 0; p < x.count(1); p++) {
            int asker = x.promise(p, 0);
            int home = x.promise(p, 1);
            places[x.promise(p, 4)]++;
            waiting += x.promise(p, 2);
            boolean isOpen = x.state(p, home, 0) == PromiseWire.OPEN;
            open += isOpen ? 1 : 0;
            check.isTrue("none waits for what is done", isOpen || x.promise(p, 2) == 0);
            if (x.state(p, asker, 0) != PromiseWire.OPEN) {
                check.isTrue("home knows first", !isOpen);
                boolean isSame = x.state(p, asker, 0) == x.state(p, home, 0)
                    && x.state(p, asker, 1) == x.state(p, home, 1);
                boolean isCut = x.state(p, asker, 0) == PromiseWire.BROKEN
                    && x.state(p, asker, 1) == 1;
                check.isTrue("asker knows the same, or CUT", isSame || isCut);
            }
        }
        check.due("open", open, x.count(2));
        check.due("waiting", waiting, x.count(7));
        check.due("waiting", places[2], x.count(7));
        check.due("held", places[1], x.count(6));
        check.isTrue("letters of messages", places[3] <= x.count(3));
    }

    private static void comesToRest(PromiseWire x) {
        for (int i = 0; i < 40 && x.flow(100) == 100; i++) {
            check.isTrue("letters come to an end", i < 39);
        }
        check.due("no letters", x.count(3), 0);
        sumsHold(x);
        promisesHold(x);
        check.due("open is what is held or waits", x.count(2), x.count(6) + x.count(7));
        for (int p = 0; p < x.count(1); p++) {
            check.due("asker knows what home knows of", x.state(p, x.promise(p, 0), 0)
                == PromiseWire.OPEN ? 0 : 1, x.state(p, x.promise(p, 1), 0)
                == PromiseWire.OPEN ? 0 : 1);
        }
    }
}
