/** What tests by hand have in common: answers that are due, and what many of them begin with. */
abstract class Dues {
    static final int NONE = -1, BAD = -2, STATE = -3, FULL = -4, OPEN = -5;
    static final int REFUTED = 0, PROVED = 1, TRIED = 2, UNDECIDED = 3;
    static final int LEAST = Integer.MIN_VALUE, MOST = Integer.MAX_VALUE;
    static final Check CHECK = new Check();

    static void due(String call, long got, long want) {
        CHECK.due(call, got, want);
    }

    /** All that pair() tells of a PAIR, or the first few of it. */
    static void duePair(String name, RewriteChecks x, int k, long... want) {
        for (int what = 0; what < want.length; what++) {
            due(name + ", pair(" + k + ", " + what + ")", x.pair(k, what), want[what]);
        }
    }

    /** SIGNS of WEIGHT 1. */
    static RewriteChecks withSigns(int... arities) {
        RewriteChecks x = new RewriteChecks();
        for (int arity : arities) {
            x.sign(arity, 1);
        }
        return x;
    }

    /** SIGNS 0 (c, no PARTS), 1 (g, one), 2 (f, two), 3 (d, none); TERMS 0 (c), 1 (d). */
    static RewriteChecks small() {
        RewriteChecks x = withSigns(0, 1, 2, 0);
        x.term(0, 0, 0);
        x.term(3, 0, 0);
        return x;
    }

    /** A TERM within so many SIGNS of one PART. */
    static int nested(RewriteChecks x, int sign, int term, int many) {
        int t = term;
        for (int k = 0; k < many; k++) {
            t = x.term(sign, t, 0);
        }
        return t;
    }
}
