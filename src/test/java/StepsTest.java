/**
 * Promises 5 to 9: RULES, STEPS, NORMAL and what was used. SIGNS are mostly 0 (a, no PARTS), 1 (s,
 * one), 2 (f, two), 3 (b, none).
 */
public final class StepsTest extends Dues {

    public static void main(String[] args) {
        rules();
        ruleSizes();
        onAndOff();
        fitting();
        ways();
        firstRule();
        newTerms();
        hundredSteps();
        deepPlaces();
        manyPlaces();
        fullSteps();
        usedStays();
        CHECK.finish();
    }

    private static void rules() {
        RewriteChecks x = withSigns(0, 1, 2, 0);
        int v0 = x.variable(0);
        int v3 = x.variable(3);
        int v4 = x.variable(4);
        int a = x.term(0, 0, 0);
        int s0 = x.term(1, v0, 0);
        int s4 = x.term(1, v4, 0);
        int f03 = x.term(2, v0, v3);
        int terms = x.count(1);
        due("rule(v0, a)", x.rule(v0, a), STATE);
        due("rule(s0, v3)", x.rule(s0, v3), STATE);
        due("rule(a, v0)", x.rule(a, v0), STATE);
        due("rule(s4, a)", x.rule(s4, a), STATE);
        due("rule(s4, v4)", x.rule(s4, v4), STATE);
        due("rule(-1, a)", x.rule(-1, a), BAD);
        due("rule(s0, terms)", x.rule(s0, terms), BAD);
        due("rule(v0, terms)", x.rule(v0, terms), BAD);
        due("count(2)", x.count(2), 0);
        for (int k = 0; k < 16; k++) {
            due("rule " + k, x.rule(f03, k % 2 == 0 ? v3 : a), k);
        }
        due("rule(f03, v0)", x.rule(f03, v0), FULL);
        due("rule(v0, v0)", x.rule(v0, v0), STATE);
        due("rule(f03, terms)", x.rule(f03, terms), BAD);
        due("count(2)", x.count(2), 16);
        due("count(1)", x.count(1), terms);
    }

    private static void ruleSizes() {
        RewriteChecks x = withSigns(0, 1, 2, 0);
        int v = x.variable(0);
        int size30 = nested(x, 1, v, 29);
        int size31 = nested(x, 1, v, 30);
        due("rule of SIZE 31", x.rule(size31, v), STATE);
        due("rule to SIZE 31", x.rule(size30, size31), STATE);
        due("rule of SIZE 30", x.rule(size30, size30), 0);
        x.on(0, false);
        due("rule of SIZE 30", x.rule(size30, v), 1);
        due("step(size31, 0)", x.step(size31, 0), x.term(1, v, 0));
        due("step(size31, 1)", x.step(size31, 1), x.term(1, v, 0));
        due("used(0, 1)", x.used(0, 1), 3);
        due("step(size 29)", x.step(x.part(size30, 0), 1), NONE);
    }

    private static void onAndOff() {
        RewriteChecks x = withSigns(0, 1, 2, 0);
        int a = x.term(0, 0, 0);
        int b = x.term(3, 0, 0);
        x.rule(a, b);
        due("on(0, true)", x.on(0, true), 1);
        due("on(0, false)", x.on(0, false), 1);
        due("step(a, 0)", x.step(a, 0), NONE);
        due("on(0, false)", x.on(0, false), 0);
        due("on(0, true)", x.on(0, true), 0);
        due("step(a, 0)", x.step(a, 0), b);
        due("on(1, true)", x.on(1, true), BAD);
        due("on(-1, true)", x.on(-1, true), BAD);
    }

    private static void fitting() {
        RewriteChecks x = withSigns(0, 1, 2, 0);
        int v0 = x.variable(0);
        int v1 = x.variable(1);
        int a = x.term(0, 0, 0);
        int b = x.term(3, 0, 0);
        x.rule(x.term(2, v0, v0), v0);
        int fab = x.term(2, a, b);
        int faa = x.term(2, a, a);
        int f01 = x.term(2, v0, v1);
        int f11 = x.term(2, v1, v1);
        due("f(a, b) by f(v, v)", x.step(fab, 0), NONE);
        due("f(a, a) by f(v, v)", x.step(faa, 0), a);
        due("f(v0, v1) by f(v, v)", x.step(f01, 0), NONE);
        due("f(v1, v1) by f(v, v)", x.step(f11, 0), v1);
        due("f(f(a,b), f(a,b))", x.step(x.term(2, fab, fab), 0), fab);
        due("f(f(a,b), f(b,a))", x.step(x.term(2, fab, x.term(2, b, a)), 0), NONE);
        due("a VARIABLE", x.step(v0, 0), NONE);
        due("step(a, 2)", x.step(a, 2), BAD);
        due("step(a, -1)", x.step(a, -1), BAD);
        due("step(-1, 0)", x.step(-1, 0), BAD);
        due("step(1000, 0)", x.step(1000, 0), BAD);
        due("normal(a, 2)", x.normal(a, 2), BAD);
        due("normal(a, -1)", x.normal(a, -1), BAD);
        due("normal(-1, 0)", x.normal(-1, 0), BAD);
        due("normal(1000, 0)", x.normal(1000, 0), BAD);
    }

    private static void ways() {
        RewriteChecks x = withSigns(0, 1, 2, 0);
        int v0 = x.variable(0);
        int v1 = x.variable(1);
        int a = x.term(0, 0, 0);
        int b = x.term(3, 0, 0);
        x.rule(x.term(2, v0, v1), v1);
        x.rule(a, b);
        int faa = x.term(2, a, a);
        int sfaa = x.term(1, faa, 0);
        due("step by way 0", x.step(sfaa, 0), x.term(1, a, 0));
        due("used(0, 0)", x.used(0, 0), 0);
        due("used(0, 1)", x.used(0, 1), 3);
        int sfba = x.step(sfaa, 1);
        due("step by way 1", sfba, x.term(1, x.term(2, b, a), 0));
        due("used(0, 0)", x.used(0, 0), 1);
        due("used(0, 1)", x.used(0, 1), 9);
        due("next step by way 1", x.step(sfba, 1), x.term(1, x.term(2, b, b), 0));
        due("used(0, 1)", x.used(0, 1), 10);
        due("normal by way 0", x.normal(sfaa, 0), x.term(1, b, 0));
        due("used(NONE, 0)", x.used(NONE, 0), 2);
        due("normal by way 1", x.normal(sfaa, 1), x.term(1, b, 0));
        due("used(NONE, 1)", x.used(NONE, 1), 3);
        due("used(2, 0)", x.used(2, 0), 0);
        due("used(2, 1)", x.used(2, 1), 3);
        due("used(3, 0)", x.used(3, 0), NONE);
        due("used(-2, 0)", x.used(-2, 0), NONE);
        due("used(0, 2)", x.used(0, 2), BAD);
        due("used(0, -1)", x.used(0, -1), BAD);
        due("used(NONE, 2)", x.used(NONE, 2), BAD);
        due("used(9, 3)", x.used(9, 3), BAD);
    }

    private static void firstRule() {
        RewriteChecks x = withSigns(0, 1, 2, 0);
        int v0 = x.variable(0);
        int a = x.term(0, 0, 0);
        int b = x.term(3, 0, 0);
        int sa = x.term(1, a, 0);
        x.rule(a, b);
        x.rule(x.term(1, v0, 0), v0);
        x.rule(sa, b);
        due("the outer PLACE goes ahead of a lower RULE", x.step(sa, 0), a);
        due("used(0, 0)", x.used(0, 0), 1);
        x.on(1, false);
        due("the next RULE", x.step(sa, 0), b);
        due("used(0, 0)", x.used(0, 0), 2);
        due("the inner PLACE", x.step(sa, 1), x.term(1, b, 0));
        due("used(0, 0)", x.used(0, 0), 0);
    }

    private static void newTerms() {
        RewriteChecks x = withSigns(0, 1, 2, 0);
        int v0 = x.variable(0);
        int v1 = x.variable(1);
        int a = x.term(0, 0, 0);
        int s1 = x.term(1, v1, 0);
        int right = x.term(2, s1, x.term(2, x.term(1, s1, 0), x.term(1, v0, 0)));
        x.rule(x.term(2, v0, v1), right);
        int b = x.term(3, 0, 0);
        int whole = x.term(1, x.term(2, a, b), 0);
        int before = x.count(1);
        int now = x.step(whole, 0);
        // s(b), s(s(b)), s(a), f(s(s(b)), s(a)), f(s(b), ..), s(..)
        due("how many are made", x.count(1), before + 6);
        due("the whole is made last", now, before + 5);
        int f = x.part(now, 0);
        due("then what stands in it", f, before + 4);
        due("the first PART first", x.part(f, 0), before);
        due("then the second", x.part(f, 1), before + 3);
        due("its first PART", x.part(x.part(f, 1), 0), before + 1);
        due("its second PART", x.part(x.part(f, 1), 1), before + 2);
        due("once more", x.step(whole, 0), now);
        due("nothing is made twice", x.count(1), before + 6);
    }

    private static void hundredSteps() {
        RewriteChecks x = withSigns(0, 1, 2, 0);
        int v0 = x.variable(0);
        int a = x.term(0, 0, 0);
        int sa = x.term(1, a, 0);
        x.rule(x.term(1, x.term(1, v0, 0), 0), x.term(1, v0, 0));
        int hundred = nested(x, 1, sa, 100);
        int more = nested(x, 1, hundred, 1);
        int before = x.count(1);
        for (int way = 0; way < 2; way++) {
            due("100 STEPS", x.normal(hundred, way), sa);
            due("used(NONE, 0)", x.used(NONE, 0), 100);
            due("used(99, 0)", x.used(99, 0), 0);
            due("used(100, 0)", x.used(100, 0), NONE);
            due("101 STEPS", x.normal(more, way), OPEN);
            due("used(NONE, 0)", x.used(NONE, 0), 100);
            due("used(99, 1)", x.used(99, 1), way == 0 ? 1 : 3);
        }
        due("count(1)", x.count(1), before);
        x.on(0, false);
        due("none", x.normal(more, 0), more);
        due("used(NONE, 0)", x.used(NONE, 0), 0);
        x.rule(a, sa);
        due("without end", x.normal(a, 0), OPEN);
        due("a OPEN call's TERMS stay", x.count(1), before);
        due("without end", x.normal(more, 0), OPEN);
        due("a OPEN call's TERMS stay", x.count(1), before + 100);
    }

    private static long power(int k) {
        long p = 1;
        for (int i = 0; i < k; i++) {
            p *= 3;
        }
        return p;
    }

    private static void deepPlaces() {
        RewriteChecks x = withSigns(0, 1, 2, 0);
        int a = x.term(0, 0, 0);
        int b = x.term(3, 0, 0);
        x.rule(a, b);
        int t = a;
        int u = a;
        long place = 1;
        for (int k = 1; k <= 60; k++) {
            t = x.term(1, t, 0);
            u = x.term(2, b, u);
            place = 3 * place + 1;
            x.step(t, k % 2);
            due("PLACE in s, depth " + k, x.used(0, 1), k <= 35 ? power(k) : 0);
            x.step(u, k % 2);
            due("PLACE in f, depth " + k, x.used(0, 1), k <= 35 ? place : 0);
            place = k < 36 ? place : 0;
        }
    }

    /** TERMS whose trees are far too large to be walked, with one PLACE, or very many. */
    private static void manyPlaces() {
        RewriteChecks x = withSigns(0, 1, 2, 0);
        int v = x.variable(0);
        int a = x.term(0, 0, 0);
        int b = x.term(3, 0, 0);
        int t = b;
        int u = a;
        for (int k = 0; k < 60; k++) {
            t = x.term(2, t, t);
            u = x.term(2, u, u);
        }
        int whole = x.term(2, t, x.term(1, v, 0));
        x.rule(x.term(1, v, 0), b);
        due("the last PLACE", x.normal(whole, 0), x.term(2, t, b));
        due("used(0, 1)", x.used(0, 1), 4);
        due("by way 1", x.normal(whole, 1), x.term(2, t, b));
        x.rule(a, b);
        // Each STEP makes the 60 TERMS round its PLACE anew.
        int before = x.count(1);
        due("very many PLACES", x.normal(u, 0), FULL);
        due("very many PLACES", x.normal(u, 1), FULL);
        due("count(1)", x.count(1), before);
        x.rule(x.term(2, v, v), v);
        due("by way 0", x.normal(u, 0), b);
        due("used(NONE, 0)", x.used(NONE, 0), 61);
    }

    private static void fullSteps() {
        RewriteChecks x = withSigns(0, 1, 2, 0);
        int a = x.term(0, 0, 0);
        int sa = x.term(1, a, 0);
        x.rule(a, sa);
        int last = sa;
        for (int k = 0; k < 9; k++) {
            due("normal " + k, x.normal(last, 0), OPEN);
            last = x.count(1) - 1;
        }
        due("count(1)", x.count(1), 902);
        due("normal of the last", x.normal(last, 1), FULL);
        due("nothing is made", x.count(1), 902);
        due("used stays", x.used(NONE, 0), 100);
        due("used stays", x.used(99, 1), 0);
        for (int k = 0; k < 98; k++) {
            last = x.step(last, k % 2);
        }
        due("count(1)", x.count(1), 1000);
        due("step of the last", x.step(last, 0), FULL);
        due("used stays", x.used(NONE, 0), 1);
        due("a step to what is there", x.step(sa, 0), x.term(1, sa, 0));
        due("used(0, 1)", x.used(0, 1), 3);
        due("BAD goes first", x.normal(1000, 0), BAD);
    }

    private static void usedStays() {
        RewriteChecks x = withSigns(0, 1, 2, 0);
        int v = x.variable(0);
        int a = x.term(0, 0, 0);
        int b = x.term(3, 0, 0);
        int sa = x.term(1, a, 0);
        x.rule(x.term(1, v, 0), v);
        x.rule(a, b);
        x.rule(sa, b);
        x.normal(sa, 0);
        due("used(NONE, 0)", x.used(NONE, 0), 2);
        x.step(77, 0);
        x.normal(sa, 5);
        due("pairs()", x.pairs(), 3);
        x.pair(0, 5);
        x.judge(2);
        due("used(NONE, 0) stays", x.used(NONE, 0), 2);
        due("used(1, 0) stays", x.used(1, 0), 1);
        due("step(b, 0)", x.step(b, 0), NONE);
        due("used(NONE, 0) is of the latest", x.used(NONE, 0), 0);
        due("used(0, 0)", x.used(0, 0), NONE);
    }
}
