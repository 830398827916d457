import java.util.Random;

/** A scene of calls that are drawn; the same seed draws the same calls. */
final class DrawnCalls implements Scene {
    private final long seed;
    private final int calls;
    private final boolean isWild;

    /** A wild one draws numbers, too, that are not as told. */
    DrawnCalls(long seed, int calls, boolean isWild) {
        this.seed = seed;
        this.calls = calls;
        this.isWild = isWild;
    }

    DrawnCalls withoutTheLast() {
        return new DrawnCalls(seed, calls - 1, isWild);
    }

    @Override
    public void play(PromiseWire x) {
        lastAnswer(x);
    }

    /** Plays the scene and answers what its last call did. */
    int lastAnswer(PromiseWire x) {
        Play play = new Play(x, new Random(seed), isWild);
        int answer = 0;
        for (int i = 0; i < calls; i++) {
            answer = play.oneCall();
        }
        return answer;
    }

    private static final class Play {
        private final PromiseWire x;
        private final Random random;
        private final boolean isWild;
        private int things;
        private int promises;

        Play(PromiseWire x, Random random, boolean isWild) {
            this.x = x;
            this.random = random;
            this.isWild = isWild;
        }

        private int draw(int below) {
            if (isWild && random.nextInt(20) == 0) {
                int[] odd = {-1, below, Integer.MIN_VALUE, Integer.MAX_VALUE, -9, 1000};
                return odd[random.nextInt(odd.length)];
            }
            return below <= 0 ? 0 : random.nextInt(below);
        }

        int oneCall() {
            int house = draw(4);
            int other = draw(4);
            int t = draw(things);
            int p = draw(promises);
            int n = draw(12);
            switch (random.nextInt(16)) {
                case 0: return newThing(x.thing(house, draw(7), n));
                case 1: return newThing(x.guard(house, t, 255 - random.nextInt(40), n < 6));
                case 2: return x.shut(t, random.nextInt(4) == 0);
                case 3: return random.nextInt(6) == 0 ? x.back(t) : x.deliver(house, other);
                case 4: return x.wake(t, n);
                case 5: case 6: case 7: return newPromise(x.ask(house, 0, t, draw(8), n, draw(things)));
                case 8: case 9: return newPromise(x.ask(house, 1, p, draw(8), n, draw(things)));
                case 10: return x.when(house, p, t);
                case 11: return random.nextInt(3) == 0 ? x.cut(house, other) : x.again(house, other);
                case 12: return x.flow(draw(6));
                default: return x.deliver(house, other);
            }
        }

        private int newThing(int answer) {
            things = Math.max(things, answer + 1);
            return answer;
        }

        private int newPromise(int answer) {
            promises = Math.max(promises, answer + 1);
            return answer;
        }
    }
}
