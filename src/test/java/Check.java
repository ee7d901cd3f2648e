/** Counts and prints the answers that are not as due. */
final class Check {
    private int asked;
    private int wrong;

    void due(String call, long got, long want) {
        asked++;
        if (got != want) {
            wrong++;
            if (wrong <= 40) {
                System.out.println(call + " answered " + got + ", due is " + want);
            }
        }
    }

    void dueThrow(String call, RewriteChecks x, int term, int i) {
        asked++;
        try {
            int got = x.part(term, i);
            wrong++;
            System.out.println(call + " answered " + got + ", due is an exception");
        } catch (ArrayIndexOutOfBoundsException e) {
            if (e.getClass() != ArrayIndexOutOfBoundsException.class) {
                wrong++;
                System.out.println(call + " threw " + e);
            }
        }
    }

    int wrong() {
        return wrong;
    }

    void finish() {
        System.out.println(asked + " answers, " + wrong + " of them wrong");
        if (wrong != 0) {
            System.exit(1);
        }
    }
}
