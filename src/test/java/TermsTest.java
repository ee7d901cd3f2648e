/** Promises 1 to 4 and 20 to 23: SIGNS, TERMS, what is told of them, clear(). */
public final class TermsTest extends Dues {
    private static final long CAP = 1_000_000_000_000_000L;

    public static void main(String[] args) {
        newObject();
        signs();
        variables();
        terms();
        tellings();
        parts();
        largeNumbers();
        fullOfTerms();
        clearing();
        CHECK.finish();
    }

    private static void nothingThere(RewriteChecks x) {
        for (int what = 0; what <= 4; what++) {
            due("count(" + what + ") of nothing", x.count(what), 0);
        }
        due("count(-1)", x.count(-1), BAD);
        due("count(5)", x.count(5), BAD);
        due("used(NONE, 0)", x.used(NONE, 0), 0);
        due("used(0, 0)", x.used(0, 0), NONE);
        due("refuted(0)", x.refuted(0), NONE);
        due("of(0, 0, 0)", x.of(0, 0, 0), BAD);
        due("part(0, 0)", x.part(0, 0), BAD);
        due("term(0, 0, 0)", x.term(0, 0, 0), BAD);
        due("rule(0, 0)", x.rule(0, 0), BAD);
        due("on(0, true)", x.on(0, true), BAD);
        due("step(0, 0)", x.step(0, 0), BAD);
        due("normal(0, 0)", x.normal(0, 0), BAD);
        due("ends(0)", x.ends(0), BAD);
        due("above(0, 0)", x.above(0, 0), BAD);
        due("pair(0, 0)", x.pair(0, 0), BAD);
        due("judge(0)", x.judge(0), BAD);
        due("cell(0, 0, 0, 0)", x.cell(0, 0, 0, 0), STATE);
        due("has(0, 0)", x.has(0, 0), STATE);
        due("value(0)", x.value(0), STATE);
        due("pairs()", x.pairs(), 0);
    }

    private static void newObject() {
        nothingThere(new RewriteChecks());
    }

    private static void signs() {
        RewriteChecks x = new RewriteChecks();
        due("sign(-1, 1)", x.sign(-1, 1), BAD);
        due("sign(3, 1)", x.sign(3, 1), BAD);
        due("sign(0, 0)", x.sign(0, 0), BAD);
        due("sign(0, 10)", x.sign(0, 10), BAD);
        due("count(0)", x.count(0), 0);
        for (int k = 0; k < 10; k++) {
            due("sign " + k, x.sign(k % 3, k % 9 + 1), k);
        }
        due("sign(0, 1)", x.sign(0, 1), FULL);
        due("sign(0, 10)", x.sign(0, 10), BAD);
        due("count(0)", x.count(0), 10);
    }

    private static void variables() {
        RewriteChecks x = new RewriteChecks();
        due("variable(-1)", x.variable(-1), BAD);
        due("variable(8)", x.variable(8), BAD);
        due("variable(7)", x.variable(7), 0);
        due("variable(0)", x.variable(0), 1);
        due("variable(7)", x.variable(7), 0);
        due("count(1)", x.count(1), 2);
    }

    private static void terms() {
        RewriteChecks x = withSigns(0, 1, 2);
        due("term(0, -9, 99)", x.term(0, -9, 99), 0);
        due("term(0, 5, 5)", x.term(0, 5, 5), 0);
        due("term(1, 1, 0)", x.term(1, 1, 0), BAD);
        due("term(1, -1, 0)", x.term(1, -1, 0), BAD);
        due("term(1, 0, 77)", x.term(1, 0, 77), 1);
        due("term(1, 0, -5)", x.term(1, 0, -5), 1);
        due("term(2, 0, 2)", x.term(2, 0, 2), BAD);
        due("term(2, 2, 0)", x.term(2, 2, 0), BAD);
        due("term(2, 0, -1)", x.term(2, 0, -1), BAD);
        due("term(2, 0, 1)", x.term(2, 0, 1), 2);
        due("term(2, 1, 0)", x.term(2, 1, 0), 3);
        due("term(2, 0, 1)", x.term(2, 0, 1), 2);
        due("term(3, 0, 0)", x.term(3, 0, 0), BAD);
        due("term(-1, 0, 0)", x.term(-1, 0, 0), BAD);
        due("count(1)", x.count(1), 4);
    }

    private static void tellings() {
        RewriteChecks x = new RewriteChecks();
        x.sign(2, 4);
        x.sign(0, 9);
        int v = x.variable(5);
        int c = x.term(1, 0, 0);
        int t = x.term(0, v, c);
        int u = x.term(0, t, t);
        long[][] tellings = {{NONE, 5, 1, 1}, {1, NONE, 1, 9}, {0, NONE, 3, 14}, {0, NONE, 7, 32}};
        int[] all = {v, c, t, u};
        for (int k = 0; k < all.length; k++) {
            for (int what = 0; what < 4; what++) {
                due("of(" + all[k] + ", " + what + ", 99)", x.of(all[k], what, 99), tellings[k][what]);
            }
        }
        int v0 = x.variable(0);
        due("of(v0, 0, 0)", x.of(v0, 0, 0), NONE);
        due("of(v0, 1, 0)", x.of(v0, 1, 0), 0);
        due("of(v0, 4, 0)", x.of(v0, 4, 0), 1);
        due("of(u, 4, 5)", x.of(u, 4, 5), 2);
        due("of(u, 4, 4)", x.of(u, 4, 4), 0);
        due("of(v, 4, 5)", x.of(v, 4, 5), 1);
        due("of(u, 4, -1)", x.of(u, 4, -1), BAD);
        due("of(u, 4, 8)", x.of(u, 4, 8), BAD);
        due("of(u, 5, 0)", x.of(u, 5, 0), BAD);
        due("of(u, -1, 0)", x.of(u, -1, 0), BAD);
        due("of(5, 0, 0)", x.of(5, 0, 0), BAD);
        due("of(-1, 0, 0)", x.of(-1, 0, 0), BAD);
    }

    private static void parts() {
        RewriteChecks x = withSigns(0, 1, 2);
        int c = x.term(0, 0, 0);
        int v = x.variable(0);
        int one = x.term(1, v, 0);
        int two = x.term(2, one, v);
        due("part(two, 0)", x.part(two, 0), one);
        due("part(two, 1)", x.part(two, 1), v);
        due("part(one, 0)", x.part(one, 0), v);
        due("part(4, 0)", x.part(4, 0), BAD);
        due("part(-1, 7)", x.part(-1, 7), BAD);
        CHECK.dueThrow("part(two, 2)", x, two, 2);
        CHECK.dueThrow("part(two, -1)", x, two, -1);
        CHECK.dueThrow("part(one, 1)", x, one, 1);
        CHECK.dueThrow("part(c, 0)", x, c, 0);
        CHECK.dueThrow("part(v, 0)", x, v, 0);
        CHECK.dueThrow("part(two, MIN)", x, two, Integer.MIN_VALUE);
    }

    private static void largeNumbers() {
        RewriteChecks x = new RewriteChecks();
        x.sign(2, 9);
        int t = x.variable(3);
        for (int k = 1; k <= 49; k++) {
            t = x.term(0, t, t);
        }
        due("count of 2^49", x.of(t, 4, 3), 1L << 49);
        due("size of 2^50 - 1", x.of(t, 2, 0), CAP);
        due("weight", x.of(t, 3, 0), CAP);
        int u = x.part(t, 0);
        due("size of 2^49 - 1", x.of(u, 2, 0), (1L << 49) - 1);
        due("weight of 2^48 (1 + 9) - 9", x.of(u, 3, 0), CAP);
        int w = x.part(x.part(u, 0), 0);
        due("weight of 2^46 (1 + 9) - 9", x.of(w, 3, 0), 10L * (1L << 46) - 9);
        for (int k = 0; k < 400; k++) {
            t = x.term(0, t, t);
        }
        due("count beyond", x.of(t, 4, 3), CAP);
        due("size beyond", x.of(t, 2, 0), CAP);
        due("other VARIABLE", x.of(t, 4, 2), 0);
        due("normal(t, 0)", x.normal(t, 0), t);
        due("normal(t, 1)", x.normal(t, 1), t);
        due("step(t, 1)", x.step(t, 1), NONE);
        due("rule(t, t)", x.rule(t, t), STATE);
        due("above(t, t)", x.above(t, t), STATE);
        x.tables(3);
        x.has(3, 2);
        x.cell(0, 2, 2, 1);
        x.cell(0, 1, 1, 2);
        due("value(t)", x.value(t), 1);
    }

    private static void fullOfTerms() {
        RewriteChecks x = withSigns(0, 1, 2);
        int c = x.term(0, 0, 0);
        int grown = x.term(1, c, 0);
        x.rule(c, grown);
        x.on(0, false);
        int last = c;
        x.on(0, true);
        while (x.count(1) < 1000) {
            int made = x.normal(last, 0) == FULL ? x.step(last, 0) : x.count(1) - 1;
            last = made;
        }
        due("count(1)", x.count(1), 1000);
        due("variable(0)", x.variable(0), FULL);
        due("variable(8)", x.variable(8), BAD);
        due("term(2, 0, 0)", x.term(2, 0, 0), FULL);
        due("term(2, 0, 1000)", x.term(2, 0, 1000), BAD);
        due("term(0, 0, 0) is there", x.term(0, 0, 0), c);
        due("term(1, c, 0) is there", x.term(1, c, 0), grown);
        due("count(1)", x.count(1), 1000);
        due("size of the last", x.of(last, 2, 0), 1000);
        due("clear()", x.clear(), 1000);
        nothingThere(x);
    }

    private static void clearing() {
        RewriteChecks x = new RewriteChecks();
        due("clear() of nothing", x.clear(), 0);
        int c = x.sign(0, 1);
        int s = x.sign(1, 2);
        int v = x.variable(2);
        int zero = x.term(c, 0, 0);
        int left = x.term(s, x.term(s, v, 0), 0);
        x.rule(left, v);
        x.rule(x.term(s, zero, 0), zero);
        due("pairs()", x.pairs(), 2);
        x.tables(2);
        x.has(2, 1);
        x.cell(s, 0, 0, 2);
        x.normal(left, 0);
        due("judge(0)", x.judge(0), 0);
        due("refuted(2)", x.refuted(2), 1);
        int there = x.count(1);
        due("clear()", x.clear(), there);
        nothingThere(x);
        due("sign(2, 3)", x.sign(2, 3), 0);
        due("variable(4)", x.variable(4), 0);
        due("term(0, 0, 0)", x.term(0, 0, 0), 1);
        due("weight by the new SIGN", x.of(1, 3, 0), 5);
        due("tables(2)", x.tables(2), 2);
        due("cell(0, 0, 0, 1)", x.cell(0, 0, 0, 1), 0);
        due("has(2, 0)", x.has(2, 0), 0);
        due("rule(1, 0) of VARIABLE 4", x.rule(1, 0), STATE);
        due("clear()", x.clear(), 2);
        due("clear()", x.clear(), 0);
    }
}
