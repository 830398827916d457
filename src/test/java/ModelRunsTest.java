import java.lang.reflect.Method;
import java.util.Arrays;
import java.util.HashMap;
import java.util.Map;
import java.util.Random;

/** Drawn calls (the same in each run of the test), each answered as the model of the document does. */
public final class ModelRunsTest {
    private static final int RUNS = 3000, CALLS = 512;
    private static final String[] CHANGES = {"thing", "guard", "shut", "back", "wake", "ask", "ask",
        "ask", "ask", "ask", "ask", "when", "deliver", "deliver", "deliver", "deliver", "flow",
        "cut", "again"};
    private static final String[] LOOKS = {"about", "state", "state", "promise", "promise", "wire",
        "letter", "letter", "letter", "purses", "count", "trace"};
    private static final Check check = new Check("ModelRunsTest");
    private static final Map<String, Method> ofClass = methods(PromiseWire.class);
    private static final Map<String, Method> ofModel = methods(Model.class);

    public static void main(String[] args) throws Exception {
        for (int run = 0; run < RUNS; run++) {
            play(run);
        }
        check.end();
    }

    private static Map<String, Method> methods(Class<?> of) {
        Map<String, Method> found = new HashMap<>();
        for (Method m : of.getDeclaredMethods()) {
            found.put(m.getName(), m);
        }
        return found;
    }

    /** A run ends with its first wrong answer: what comes behind it tells nothing new. */
    private static void play(int run) throws Exception {
        PromiseWire x = new PromiseWire();
        Model model = new Model();
        Draw draw = new Draw(new Random(run), model);
        for (int i = 0; i < CALLS; i++) {
            String name = draw.name();
            Object[] arguments = draw.arguments(name);
            String call = "run " + run + ", call " + i + ": " + name + Arrays.toString(arguments);
            long want = ((Number) ofModel.get(name).invoke(model, arguments)).longValue();
            long got = ((Number) ofClass.get(name).invoke(x, arguments)).longValue();
            check.due(call, got, want);
            if (got != want) {
                return;
            }
        }
    }

    /** Draws calls that mostly are as told; each run has favourites and oddities of its own. */
    private static final class Draw {
        private static final int[] ODD = {-1, -9, 20, 21, 40, 100, 256, Integer.MIN_VALUE,
            Integer.MAX_VALUE};
        private final Random random;
        private final Model model;
        private final int houses;
        private final int cutsIn;
        private final int oddIn;
        private final String favourite;

        Draw(Random random, Model model) {
            this.random = random;
            this.model = model;
            this.houses = 2 + random.nextInt(3);
            this.cutsIn = 1 + random.nextInt(6);
            this.oddIn = 10 + random.nextInt(200);
            this.favourite = one(CHANGES);
        }

        /** The favourite fills all places of its sort in some of the runs. */
        String name() {
            if (isIn(2)) {
                return one(LOOKS);
            }
            return isIn(4) ? favourite : one(CHANGES);
        }

        private boolean isIn(int n) {
            return random.nextInt(n) == 0;
        }

        private String one(String[] names) {
            return names[random.nextInt(names.length)];
        }

        private int below(int n) {
            if (isIn(oddIn)) {
                return isIn(2) ? n : ODD[random.nextInt(ODD.length)];
            }
            return random.nextInt(Math.max(n, 1));
        }

        private int house() {
            return below(houses);
        }

        private int thing() {
            return below(model.count(0));
        }

        /** A thing of that kind (what is 1) or of that house (0), if a few draws find one. */
        private int thing(int what, int wanted) {
            int thing = thing();
            for (int i = 0; i < 4 && model.about(thing, what) != wanted; i++) {
                thing = thing();
            }
            return thing;
        }

        private int promise() {
            return below(model.count(1));
        }

        private int amount() {
            return isIn(12) ? ODD[random.nextInt(ODD.length)] : below(12);
        }

        /** Joiners mostly are for a few, so that they answer. */
        private int beginning(int kind) {
            return kind == 5 || kind == 6 ? 1 + below(isIn(4) ? 20 : 4) : amount();
        }

        /** Mostly a house that may ask the promise. */
        private int houseOf(int promise) {
            return isIn(8) || model.promise(promise, 0) < 0 ? house()
                : model.promise(promise, random.nextInt(2));
        }

        Object[] arguments(String name) {
            switch (name) {
                case "thing":
                    int kind = below(7);
                    return new Object[] {house(), kind, beginning(kind)};
                case "guard":
                    return new Object[] {house(), thing(), isIn(3) ? below(256) : 255, isIn(2)};
                case "shut": return new Object[] {thing(1, isIn(2) ? 3 : 4), isIn(3)};
                case "back": return new Object[] {isIn(4) ? thing(1, 4) : thing()};
                case "wake": return new Object[] {thing(1, 6), amount()};
                case "about": return new Object[] {thing(), below(8)};
                case "ask": return asked();
                case "when": return awaited();
                case "state":
                    int promise = promise();
                    return new Object[] {promise, houseOf(promise), below(2)};
                case "promise": return new Object[] {promise(), below(5)};
                case "deliver": case "again": case "wire":
                    return new Object[] {house(), house()};
                case "flow": return new Object[] {isIn(20) ? below(101) : 1 + below(8)};
                case "cut":
                    int a = house();
                    return new Object[] {a, isIn(cutsIn) ? house() : a};
                case "letter":
                    return new Object[] {house(), house(), below(3), below(6)};
                case "count": return new Object[] {below(9)};
                default: return new Object[0];
            }
        }

        private Object[] asked() {
            int act = isIn(3) ? 4 + random.nextInt(3) : below(8);
            int n = act == 5 ? below(4) : amount();
            int other = isIn(6) ? thing() : thing(1, 1);
            if (isIn(2)) {
                int ahead = promise();
                return new Object[] {houseOf(ahead), 1, ahead, act, n, other};
            }
            return new Object[] {house(), isIn(oddIn) ? 2 : 0, hearer(act), act, n, other};
        }

        /** Mostly a guard, or a thing that does not refuse the act, where few kinds do not. */
        private int hearer(int act) {
            if (isIn(3)) {
                return thing(1, isIn(2) ? 3 : 4);
            }
            switch (act) {
                case 4: return thing(1, 1);
                case 5: return thing(1, 2);
                case 6: return thing(1, isIn(2) ? 5 : 6);
                default: return thing();
            }
        }

        private Object[] awaited() {
            int promise = promise();
            int house = houseOf(promise);
            return new Object[] {house, promise, thing(0, house)};
        }
    }
}
