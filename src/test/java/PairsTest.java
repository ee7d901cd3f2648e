/** Promises 12 and 13: PAIRS and which of them are joined. */
public final class PairsTest extends Dues {

    public static void main(String[] args) {
        overlapWithItself();
        associative();
        numbering();
        order();
        placeAlone();
        noUnifier();
        sixty();
        joinedNow();
        secondIsNotAsked();
        fullPairs();
        fullAtTheSecond();
        largeUnifier();
        manyLargeRules();
        byWayZero();
        CHECK.finish();
    }

    private static void overlapWithItself() {
        RewriteChecks x = withSigns(1, 1);
        int v = x.variable(2);
        int fv = x.term(0, v, 0);
        x.rule(x.term(0, fv, 0), x.term(1, v, 0));
        due("count(3)", x.count(3), 0);
        int before = x.count(1);
        due("pairs()", x.pairs(), 1);
        due("count(3)", x.count(3), 1);
        // v0, g(v0), f(g(v0)) for the first one, f(v0), g(f(v0)) for the second one
        due("how many are made", x.count(1), before + 5);
        duePair("f(f(v))", x, 0, 0, 0, 3, before + 2, before + 4, 0);
        due("v0 is made first", x.variable(0), before);
        due("then g(v0)", x.term(1, before, 0), before + 1);
        due("then f(g(v0))", x.term(0, before + 1, 0), before + 2);
        due("then f(v0)", x.term(0, before, 0), before + 3);
        due("then g(f(v0))", x.term(1, before + 3, 0), before + 4);
        due("pair(1, 0)", x.pair(1, 0), BAD);
        due("pair(-1, 0)", x.pair(-1, 0), BAD);
        due("pair(0, 6)", x.pair(0, 6), BAD);
        due("pair(0, -1)", x.pair(0, -1), BAD);
        due("pair(1, 5)", x.pair(1, 5), BAD);
    }

    private static void associative() {
        RewriteChecks x = withSigns(2);
        int a = x.variable(0);
        int b = x.variable(1);
        int c = x.variable(2);
        int ab = x.term(0, a, b);
        int bc = x.term(0, b, c);
        x.rule(x.term(0, ab, c), x.term(0, a, bc));
        due("pairs()", x.pairs(), 1);
        int d = x.variable(3);
        int first = x.term(0, x.term(0, a, bc), d);
        int second = x.term(0, ab, x.term(0, c, d));
        duePair("((ab)c)d", x, 0, 0, 0, 3, first, second, 1);
    }

    /** VARIABLES are numbered along LEFT i, those too that stand in neither TERM of the PAIR. */
    private static void numbering() {
        RewriteChecks x = withSigns(2, 1, 0);
        int v0 = x.variable(0);
        int v1 = x.variable(1);
        int v3 = x.variable(3);
        int c = x.term(2, 0, 0);
        int g = x.term(1, v3, 0);
        x.rule(x.term(0, g, v1), v1);
        x.rule(x.term(1, v0, 0), c);
        due("pairs()", x.pairs(), 1);
        duePair("f(g(v), w)", x, 0, 0, 1, 3, x.term(0, c, v1), v1, 0);
        // f(v1, v0) -> v1 against f(g(v3), v1): along f(w, g(u)), w is 0 and u is 1.
        RewriteChecks y = withSigns(2, 1);
        int w1 = y.variable(1);
        int w0 = y.variable(0);
        int w2 = y.variable(2);
        y.rule(y.term(0, w1, w0), w1);
        y.rule(y.term(0, w1, y.term(1, w2, 0)), y.term(0, w2, w1));
        due("pairs()", y.pairs(), 2);
        duePair("i 0, j 1", y, 0, 0, 1, 1, y.term(0, w1, w0), w0, 0);
        duePair("i 1, j 0", y, 1, 1, 0, 1, w0, y.term(0, w1, w0), 0);
    }

    private static void order() {
        RewriteChecks x = withSigns(2, 0);
        int v = x.variable(0);
        int c = x.term(1, 0, 0);
        int fvc = x.term(0, v, c);
        int left = x.term(0, fvc, fvc);
        x.rule(left, v);
        x.rule(c, c);
        x.rule(x.term(0, v, v), v);
        // LEFT 0 is f(f(v, c), f(v, c)): its PLACES with a SIGN are 1, 3, 10, 4, 13.
        long[][] want = {
            {0, 1, 10}, {0, 1, 13}, {0, 2, 1}, {0, 2, 3}, {0, 2, 4}, {2, 0, 1}
        };
        due("pairs()", x.pairs(), want.length);
        for (int k = 0; k < want.length; k++) {
            duePair("order", x, k, want[k]);
        }
        x.on(1, false);
        due("pairs() without 1", x.pairs(), 4);
        x.on(2, false);
        due("pairs() of 0 alone", x.pairs(), 0);
        due("count(3)", x.count(3), 0);
        due("pair(0, 0)", x.pair(0, 0), BAD);
    }

    /** What stands a second time elsewhere is not replaced. */
    private static void placeAlone() {
        RewriteChecks x = withSigns(2, 0, 0);
        int a = x.term(1, 0, 0);
        int b = x.term(2, 0, 0);
        x.rule(x.term(0, a, a), b);
        x.rule(a, b);
        due("pairs()", x.pairs(), 2);
        duePair("the first", x, 0, 0, 1, 3, x.term(0, b, a), b, 0);
        duePair("the second", x, 1, 0, 1, 4, x.term(0, a, b), b, 0);
    }

    private static void noUnifier() {
        RewriteChecks x = withSigns(2, 1);
        int v = x.variable(0);
        int w = x.variable(1);
        x.rule(x.term(0, v, x.term(1, v, 0)), v);
        x.rule(x.term(0, w, w), w);
        due("v = g(v)", x.pairs(), 0);
        RewriteChecks y = withSigns(2, 1);
        v = y.variable(0);
        w = y.variable(1);
        int gv = y.term(1, v, 0);
        int gw = y.term(1, w, 0);
        y.rule(y.term(0, y.term(0, v, gv), y.term(0, w, gw)), v);
        y.rule(y.term(0, y.term(0, v, w), y.term(0, w, v)), v);
        // At PLACE 1: v4 = v0, v5 = g(v0), v5 = v1, v4 = g(v1), so v0 = g(g(v0)).
        long[][] want = {{1, 0, 3}, {1, 0, 4}, {1, 1, 3}, {1, 1, 4}};
        due("round by two", y.pairs(), want.length);
        for (int k = 0; k < want.length; k++) {
            duePair("round by two", y, k, want[k]);
        }
    }

    private static void sixty() {
        RewriteChecks x = withSigns(1);
        int v = x.variable(0);
        int s = x.term(0, v, 0);
        for (int k = 0; k < 8; k++) {
            x.rule(s, v);
        }
        due("56 PAIRS", x.pairs(), 56);
        x.rule(s, s);
        due("72 PAIRS", x.pairs(), 60);
        due("count(3)", x.count(3), 60);
        duePair("the last", x, 59, 7, 3, 1, v, v, 1);
        due("pair(60, 0)", x.pair(60, 0), BAD);
    }

    private static void joinedNow() {
        RewriteChecks x = withSigns(0, 0, 0, 1);
        int a = x.term(0, 0, 0);
        int b = x.term(1, 0, 0);
        int c = x.term(2, 0, 0);
        int sa = x.term(3, a, 0);
        x.rule(a, b);
        x.rule(a, c);
        due("pairs()", x.pairs(), 2);
        duePair("a", x, 0, 0, 1, 1, c, b, 0);
        x.rule(b, c);
        due("by b -> c", x.pair(0, 5), 1);
        x.on(2, false);
        due("without it", x.pair(0, 5), 0);
        x.rule(c, c);
        due("the first one is OPEN", x.pair(0, 5), OPEN);
        due("the second one is OPEN", x.pair(1, 5), OPEN);
        x.on(3, false);
        x.on(0, false);
        x.on(1, false);
        x.rule(c, sa);
        int before = x.count(1);
        due("what is made", x.pair(0, 5), 0);
        due("is there already", x.count(1), before);
        due("PAIRS as told last", x.count(3), 2);
    }

    /** The second NORMAL would make TERMS; it is asked only if the first one is not OPEN. */
    private static void secondIsNotAsked() {
        RewriteChecks x = withSigns(0, 0, 0, 1);
        int a = x.term(0, 0, 0);
        int b = x.term(1, 0, 0);
        int c = x.term(2, 0, 0);
        x.rule(a, b);
        x.rule(a, c);
        x.rule(c, c);
        x.rule(b, x.term(3, b, 0));
        due("pairs()", x.pairs(), 2);
        int before = x.count(1);
        due("first OPEN", x.pair(0, 5), OPEN);
        due("nothing is made", x.count(1), before);
        due("first OPEN, making TERMS", x.pair(1, 5), OPEN);
        due("they stay", x.count(1), before + 99);
    }

    private static void fullPairs() {
        RewriteChecks x = withSigns(0, 1, 1);
        int a = x.term(0, 0, 0);
        int v = x.variable(1);
        int sv = x.term(1, v, 0);
        int sa = x.term(1, a, 0);
        int hv = x.term(2, v, 0);
        x.rule(x.term(1, sv, 0), sv);
        due("pairs()", x.pairs(), 1);
        x.rule(sa, a);
        x.on(1, false);
        x.on(0, false);
        x.rule(a, x.term(2, a, 0));
        int last = a;
        while (x.count(1) < 1000) {
            last = x.normal(last, 0) == FULL ? x.step(last, 0) : x.count(1) - 1;
        }
        x.on(2, false);
        x.on(0, true);
        x.rule(x.term(2, x.term(2, a, 0), 0), sa);
        due("PAIRS whose TERMS are there", x.pairs(), 1);
        long third = x.pair(0, 3);
        x.on(1, true);
        due("still there", x.pairs(), 2);
        x.on(2, true);
        due("pairs()", x.pairs(), FULL);
        due("count(1)", x.count(1), 1000);
        due("PAIRS stay", x.count(3), 2);
        due("pair(0, 3) stays", x.pair(0, 3), third);
        due("pair(1, 1) stays", x.pair(1, 1), 1);
        due("joined by what is there", x.pair(0, 5), 1);
        due("rule(s(v), h(v))", x.rule(sv, hv), 4);
        due("pair(0, 5)", x.pair(0, 5), FULL);
        due("BAD goes first", x.pair(2, 5), BAD);
        due("count(1)", x.count(1), 1000);
    }

    /** VARIABLES that double one another: the tree is large, the TERMS are few. */
    private static void largeUnifier() {
        RewriteChecks x = withSigns(2);
        int[] v = {x.variable(0), x.variable(1), x.variable(2), x.variable(3)};
        int[] d = new int[4];
        for (int k = 0; k < 4; k++) {
            d[k] = x.term(0, v[k], v[k]);
        }
        int left = x.term(0, d[1], x.term(0, d[2], x.term(0, d[3], v[0])));
        int right = x.term(0, v[0], x.term(0, v[1], x.term(0, v[2], v[3])));
        x.rule(left, v[0]);
        x.rule(right, v[0]);
        int n = x.pairs();
        due("PAIRS", n > 0 ? 1 : 0, 1);
        for (int k = 0; k < n; k++) {
            due("TERMS", x.pair(k, 3) >= 0 && x.pair(k, 4) >= 0 ? 1 : 0, 1);
        }
    }

    /** A telling that is refused behind its first PAIR leaves those of the last telling. */
    private static void fullAtTheSecond() {
        RewriteChecks x = withSigns(0, 0, 1, 1);
        int a = x.term(0, 0, 0);
        int b = x.term(1, 0, 0);
        int v = x.variable(1);
        int sv = x.term(2, v, 0);
        x.rule(a, b);
        x.rule(a, a);
        x.rule(b, a);
        x.rule(b, b);
        x.rule(sv, v);
        x.rule(sv, sv);
        for (int r = 2; r < 6; r++) {
            x.on(r, false);
        }
        due("pairs()", x.pairs(), 2);
        x.on(0, false);
        x.on(1, false);
        x.rule(a, x.term(3, a, 0));
        int last = a;
        while (x.count(1) < 1000) {
            last = x.normal(last, 0) == FULL ? x.step(last, 0) : x.count(1) - 1;
        }
        x.on(6, false);
        for (int r = 2; r < 6; r++) {
            x.on(r, true);
        }
        due("VARIABLE 0 can't be made", x.pairs(), FULL);
        due("count(3)", x.count(3), 2);
        duePair("stays", x, 0, 0, 1, 1, a, b);
        duePair("stays", x, 1, 1, 0, 1, b, a);
        due("once more", x.pairs(), FULL);
        duePair("stays", x, 0, 0, 1, 1, a, b);
        x.on(4, false);
        due("without it", x.pairs(), 2);
        duePair("anew", x, 0, 2, 3, 1, b, a);
    }

    /** 16 RULES of SIZE 30 on both sides, each of 29 PLACES a try: only those at PLACE 1 fit. */
    private static void manyLargeRules() {
        RewriteChecks x = withSigns(1, 1);
        int v = x.variable(0);
        int inner = x.term(1, v, 0);
        for (int k = 0; k < 28; k++) {
            inner = x.term(0, inner, 0);
        }
        for (int r = 0; r < 16; r++) {
            due("rule " + r, x.rule(inner, inner), r);
        }
        due("pairs()", x.pairs(), 60);
        for (int k = 0; k < 60; k++) {
            due("the RULE i", x.pair(k, 0), k / 15);
            due("the RULE j", x.pair(k, 1), k % 15 + (k % 15 >= k / 15 ? 1 : 0));
            due("the PLACE", x.pair(k, 2), 1);
            due("the TERMS", x.pair(k, 3) == inner && x.pair(k, 4) == inner ? 1 : 0, 1);
        }
    }

    private static void byWayZero() {
        RewriteChecks x = withSigns(2, 0, 0, 0);
        int v = x.variable(0);
        int w = x.variable(1);
        int a = x.term(1, 0, 0);
        int b = x.term(2, 0, 0);
        int c = x.term(3, 0, 0);
        int fbc = x.term(0, b, c);
        x.rule(a, b);
        x.rule(a, fbc);
        due("pairs()", x.pairs(), 2);
        x.rule(x.term(0, v, w), v);
        x.rule(c, c);
        due("by way 1", x.normal(fbc, 1), OPEN);
        due("the first by way 0", x.pair(0, 5), 1);
        due("the second by way 0", x.pair(1, 5), 1);
    }
}
