/** Numbers just outside of what is told, and scenes that several tests of edges begin with. */
final class Edges {
    static final int MIN = Integer.MIN_VALUE, MAX = Integer.MAX_VALUE;

    /** What thing r of breakers() is asked, with n = 1, so that it breaks for reason r. */
    static final int[] ACT_THAT_BREAKS = {-1, 0, 3, 6, 0, 5};

    private Edges() {
    }

    /** Numbers that are none of 0 .. last. */
    static int[] outside(int last) {
        return new int[] {-1, last + 1, PromiseWire.NONE, MIN, MAX};
    }

    /** Pairs of houses of which one, or each, is none. */
    static int[][] noWires() {
        int[] no = outside(3);
        int[][] pairs = new int[3 * no.length + 4][];
        for (int i = 0; i < no.length; i++) {
            pairs[3 * i] = new int[] {no[i], 0};
            pairs[3 * i + 1] = new int[] {3, no[i]};
            pairs[3 * i + 2] = new int[] {no[i], no[i]};
        }
        // Wrong pairs whose 4 * from + to is the number of a wire all the same.
        pairs[3 * no.length] = new int[] {-1, 4};
        pairs[3 * no.length + 1] = new int[] {0, 15};
        pairs[3 * no.length + 2] = new int[] {4, -1};
        pairs[3 * no.length + 3] = new int[] {MIN, 1};
        return pairs;
    }

    /** A thing of each kind, its number being its kind's; they are in houses 0, 1, 2, 3, 0, 1, 2. */
    static void oneOfEach(PromiseWire x) {
        x.thing(0, 0, 7);
        x.thing(1, 1, 7);
        x.thing(2, 2, 7);
        x.guard(3, 0, 255, false);
        x.guard(0, 1, 255, true);
        x.thing(1, 5, 2);
        x.thing(2, 6, 1);
    }

    /** All places for things are taken: by makers, then cells. */
    static void fortyThings(PromiseWire x) {
        for (int i = 0; i < 4; i++) {
            x.thing(i, 2, 0);
        }
        for (int i = 4; i < 40; i++) {
            x.thing(i % 4, 0, i);
        }
    }

    /**
     * Things 1 .. 5 are in house 1, and each breaks for the reason of its number; thing 6 is a cell
     * in house 0, thing 7 one in house 1. The wire between houses 1 and 2 is cut.
     */
    static void breakers(PromiseWire x) {
        x.thing(2, 0, 0);
        x.guard(1, 0, 255, false);
        x.thing(1, 1, 0);
        x.thing(1, 0, 0);
        x.guard(1, 3, 255, false);
        x.shut(4, true);
        x.thing(1, 2, 0);
        for (int i = 6; i < 40; i++) {
            x.thing(i % 2, 0, 0);
        }
        x.cut(1, 2);
    }
}
