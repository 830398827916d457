/** Counts the answers that are not as due, and ends the program with 1 if there was one. */
final class Check {
    private final String name;
    private int wrong;

    Check(String name) {
        this.name = name;
    }

    void due(String call, long got, long want) {
        if (got != want) {
            wrong++;
            System.out.println(name + ": " + call + " answered " + got + ", due is " + want);
        }
    }

    void isTrue(String claim, boolean holds) {
        if (!holds) {
            wrong++;
            System.out.println(name + ": it does not hold that " + claim);
        }
    }

    void end() {
        if (wrong != 0) {
            System.out.println(name + ": " + wrong + " wrong");
            System.exit(1);
        }
    }
}
