/** Drawn runs of calls (the same in each run of the test), and what must hold behind any of them. */
public final class RandomRunsTest {
    private static final int RUNS = 1500, MOST_CALLS = 300, WILD_RUNS = 300;
    private static final int OPEN = PromiseWire.OPEN, BROKEN = PromiseWire.BROKEN, CUT = 1;
    private static final Check check = new Check("RandomRunsTest");

    public static void main(String[] args) {
        for (int run = 0; run < RUNS; run++) {
            Scene scene = new DrawnCalls(run, 1 + run * 7 % MOST_CALLS, run % 5 == 0);
            lettersHold(scene);
            thingsHold(scene);
            promisesHold(scene);
            comesToRest(scene);
        }
        for (int run = 0; run < WILD_RUNS; run++) {
            refusedChangesNothing(new DrawnCalls(run, 1 + run * 7 % MOST_CALLS, true));
        }
        check.end();
    }

    private static void refusedChangesNothing(DrawnCalls scene) {
        int answer = scene.lastAnswer(new PromiseWire());
        if (answer == PromiseWire.BAD || answer == PromiseWire.STATE
            || answer == PromiseWire.FULL) {
            check.isTrue("a refused call changes nothing",
                Seen.all(scene).equals(Seen.all(scene.withoutTheLast())));
        }
    }

    private static void lettersHold(Scene scene) {
        PromiseWire x = scene.made();
        int letters = 0;
        for (int wire = 0; wire < 16; wire++) {
            int from = wire / 4;
            int to = wire % 4;
            int size = x.wire(from, to);
            letters += size;
            check.isTrue("the last is there",
                size == 0 || x.letter(from, to, size - 1, 0) != PromiseWire.NONE);
            check.due("behind the last", x.letter(from, to, size, 0), PromiseWire.NONE);
        }
        check.due("letters", letters, x.count(3));
    }

    private static void thingsHold(Scene scene) {
        PromiseWire x = scene.made();
        int things = x.count(0);
        int held = 0;
        for (int t = 0; t < things; t++) {
            int mine = x.about(t, 7);
            held += mine;
            boolean isJoiner = x.about(t, 1) == 5;
            check.isTrue("a joiner holds less than its number",
                !isJoiner || mine < x.about(t, 2));
        }
        check.due("held", held, x.count(6));
    }

    private static void promisesHold(Scene scene) {
        PromiseWire x = scene.made();
        int promises = x.count(1);
        int[] places = new int[4];
        int open = 0;
        int waiting = 0;
        for (int p = 0; p < promises; p++) {
            PromiseWire y = scene.made();
            int home = y.promise(p, 1);
            boolean isOpen = y.state(p, home, 0) == OPEN;
            int waits = y.promise(p, 2);
            places[y.promise(p, 4)]++;
            waiting += waits;
            open += isOpen ? 1 : 0;
            check.isTrue("none waits for what is done", isOpen || waits == 0);
            askerKnowsWhatHomeKnows(y, p);
        }
        check.due("open", open, x.count(2));
        check.due("waiting", waiting, x.count(7));
        check.due("waiting", places[2], x.count(7));
        check.due("held", places[1], x.count(6));
        check.isTrue("letters of messages", places[3] <= x.count(3));
    }

    private static void askerKnowsWhatHomeKnows(PromiseWire x, int p) {
        int asker = x.promise(p, 0);
        int home = x.promise(p, 1);
        int how = x.state(p, asker, 0);
        if (how != OPEN) {
            int value = x.state(p, asker, 1);
            check.isTrue("home knows first", x.state(p, home, 0) != OPEN);
            check.isTrue("asker knows the same, or CUT", (how == BROKEN && value == CUT)
                || (how == x.state(p, home, 0) && value == x.state(p, home, 1)));
        }
    }

    private static void comesToRest(Scene scene) {
        Scene atRest = x -> {
            scene.play(x);
            for (int i = 0; i < 40 && x.flow(100) == 100; i++) {
                check.isTrue("letters come to an end", i < 39);
            }
        };
        PromiseWire x = atRest.made();
        check.due("no letters", x.count(3), 0);
        check.due("open is what is held or waits", x.count(2), x.count(6) + x.count(7));
        int promises = x.count(1);
        for (int p = 0; p < promises; p++) {
            PromiseWire y = atRest.made();
            check.isTrue("asker and home know it, or neither does",
                y.state(p, y.promise(p, 0), 0) == OPEN == (y.state(p, y.promise(p, 1), 0) == OPEN));
        }
        promisesHold(atRest);
        thingsHold(atRest);
    }
}
