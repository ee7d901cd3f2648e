/**
 * Promises 14 to 19: TABLES, VALUES, TO JUDGE a RULE. SIGNS are 0 (c, no PARTS), 1 (g, one), 2 (f,
 * two).
 */
public final class TablesTest extends Dues {

    public static void main(String[] args) {
        tables();
        cells();
        variables();
        values();
        judging();
        proving();
        firstRefuted();
        notInLeft();
        refutedStays();
        fullJudge();
        wayZero();
        manyCalls();
        CHECK.finish();
    }

    private static void tables() {
        RewriteChecks x = withSigns(0, 1, 2);
        due("tables(0)", x.tables(0), BAD);
        due("tables(4)", x.tables(4), BAD);
        due("tables(-1)", x.tables(-1), BAD);
        due("count(4)", x.count(4), 0);
        due("tables(3)", x.tables(3), 3);
        due("cell", x.cell(2, 3, 3, 3), 0);
        due("has", x.has(7, 3), 0);
        due("tables(4)", x.tables(4), BAD);
        due("count(4)", x.count(4), 3);
        due("cell stays", x.cell(2, 3, 3, 2), 3);
        due("has stays", x.has(7, 2), 3);
        due("tables(3)", x.tables(3), 3);
        due("cell is 0", x.cell(2, 3, 3, 1), 0);
        due("has is 0", x.has(7, 1), 0);
        due("tables(1)", x.tables(1), 1);
        due("count(4)", x.count(4), 1);
        due("cell beyond", x.cell(2, 1, 1, 2), BAD);
    }

    private static void cells() {
        RewriteChecks x = withSigns(0, 1, 2);
        due("no TABLES", x.cell(9, 9, 9, 9), STATE);
        x.tables(2);
        due("cell(0, 9, -9, 1)", x.cell(0, 9, -9, 1), 0);
        due("cell(0, 0, 0, 2)", x.cell(0, 0, 0, 2), 1);
        due("cell(1, 1, 99, 1)", x.cell(1, 1, 99, 1), 0);
        due("cell(1, 1, 0, 2)", x.cell(1, 1, 0, 2), 1);
        due("cell(1, 0, 0, 2)", x.cell(1, 0, 0, 2), 0);
        due("cell(2, 0, 1, 1)", x.cell(2, 0, 1, 1), 0);
        due("cell(2, 1, 0, 2)", x.cell(2, 1, 0, 2), 0);
        due("cell(2, 0, 1, 0)", x.cell(2, 0, 1, 0), 1);
        due("cell(2, 2, 2, 1)", x.cell(2, 2, 2, 1), 0);
        due("a beyond", x.cell(1, 3, 0, 0), BAD);
        due("a below", x.cell(1, -1, 0, 0), BAD);
        due("b beyond", x.cell(2, 0, 3, 0), BAD);
        due("b below", x.cell(2, 0, -1, 0), BAD);
        due("v beyond", x.cell(0, 0, 0, 3), BAD);
        due("v below", x.cell(0, 0, 0, -1), BAD);
        due("no such SIGN", x.cell(3, 0, 0, 0), BAD);
        due("no such SIGN", x.cell(-1, 0, 0, 0), BAD);
        x.sign(1, 1);
        due("a SIGN behind tables()", x.cell(3, 2, 0, 1), 0);
        due("and again", x.cell(3, 2, 0, 0), 1);
    }

    private static void variables() {
        RewriteChecks x = withSigns(0, 1, 2);
        due("no TABLES", x.has(99, 99), STATE);
        x.tables(1);
        due("has(0, 1)", x.has(0, 1), 0);
        due("has(0, 0)", x.has(0, 0), 1);
        due("has(7, 1)", x.has(7, 1), 0);
        due("has(8, 0)", x.has(8, 0), BAD);
        due("has(-1, 0)", x.has(-1, 0), BAD);
        due("has(0, 2)", x.has(0, 2), BAD);
        due("has(0, -1)", x.has(0, -1), BAD);
        due("has(7, 1)", x.has(7, 1), 1);
    }

    private static void values() {
        RewriteChecks x = withSigns(0, 1, 2);
        int v = x.variable(6);
        int c = x.term(0, 0, 0);
        int gv = x.term(1, v, 0);
        int f = x.term(2, gv, c);
        due("no TABLES", x.value(99), STATE);
        x.tables(2);
        due("value(99)", x.value(99), BAD);
        due("value(-1)", x.value(-1), BAD);
        due("all 0", x.value(f), 0);
        x.has(6, 2);
        due("OPEN counts as n", x.value(v), 2);
        x.cell(1, 2, 0, 1);
        x.cell(0, 0, 0, 2);
        x.cell(2, 1, 2, 2);
        x.cell(2, 2, 1, 1);
        due("g of OPEN", x.value(gv), 1);
        due("c", x.value(c), 2);
        due("f(1, OPEN)", x.value(f), 2);
        due("f(OPEN, 1)", x.value(x.term(2, c, gv)), 1);
        x.has(6, 0);
        due("g of 0", x.value(gv), 0);
        due("f(0, OPEN)", x.value(f), 0);
        x.tables(1);
        due("new TABLES", x.value(f), 0);
    }

    private static void judging() {
        RewriteChecks x = withSigns(0, 1, 2);
        int v = x.variable(0);
        int w = x.variable(1);
        x.rule(x.term(2, v, w), x.term(2, w, v));
        due("judge(-1)", x.judge(-1), BAD);
        due("judge(1)", x.judge(1), BAD);
        due("refuted(-1)", x.refuted(-1), BAD);
        due("refuted(4)", x.refuted(4), BAD);
        due("without TABLES", x.judge(0), UNDECIDED);
        due("refuted(0)", x.refuted(0), NONE);
        x.tables(2);
        x.has(0, 1);
        due("all 0", x.judge(0), TRIED);
        due("refuted(0)", x.refuted(0), NONE);
        x.cell(2, 2, 1, 1);
        due("f(OPEN, 1) is not f(1, OPEN)", x.judge(0), REFUTED);
        due("refuted(0)", x.refuted(0), 2);
        due("refuted(1)", x.refuted(1), 1);
        due("refuted(2)", x.refuted(2), 0);
        due("refuted(3)", x.refuted(3), 0);
        due("what a VARIABLE has stays", x.has(0, 1), 1);
        x.cell(2, 1, 2, 1);
        due("the same again", x.judge(0), TRIED);
        due("refuted(0)", x.refuted(0), NONE);
        x.on(0, false);
        due("OFF is judged too", x.judge(0), TRIED);
    }

    private static void proving() {
        RewriteChecks x = withSigns(0, 1, 2);
        int v = x.variable(0);
        int c = x.term(0, 0, 0);
        int gv = x.term(1, v, 0);
        x.rule(gv, c);
        x.rule(x.term(1, gv, 0), c);
        x.rule(x.term(2, v, c), x.term(2, v, c));
        due("by itself it is not proved", x.judge(0), UNDECIDED);
        due("g(g(v)) -> c by g(v) -> c", x.judge(1), PROVED);
        due("both sides the same", x.judge(2), PROVED);
        x.on(0, false);
        due("by RULES that are ON", x.judge(1), UNDECIDED);
        x.tables(1);
        x.cell(1, 0, 0, 1);
        due("refuted", x.judge(1), REFUTED);
        due("at OPEN", x.refuted(0), 1);
        x.on(0, true);
        due("proved goes ahead", x.judge(1), PROVED);
        due("refuted(0)", x.refuted(0), NONE);
        x.on(0, false);
        x.rule(x.term(1, c, 0), x.term(1, c, 0));
        x.cell(1, 1, 0, 1);
        due("refuted", x.judge(1), REFUTED);
        x.rule(x.term(1, gv, 0), x.term(1, gv, 0));
        due("LEFT's NORMAL is OPEN", x.judge(1), REFUTED);
        due("refuted(0)", x.refuted(0), 0);
    }

    private static void firstRefuted() {
        RewriteChecks x = withSigns(0, 1, 2);
        int[] v = {x.variable(0), x.variable(1), x.variable(2), x.variable(3)};
        int left = x.term(2, x.term(2, v[0], v[1]), x.term(2, v[2], v[3]));
        x.rule(left, x.term(0, 0, 0));
        x.tables(3);
        x.cell(2, 3, 2, 1);
        x.cell(2, 1, 3, 2);
        x.cell(2, 1, 2, 3);
        // Inner VALUES: 1 at (OPEN, 2), 2 at (1, OPEN), OPEN at (1, 2); the whole differs from 0 at
        // (1, 2), (1, OPEN) and (OPEN, 2); VARIABLES 2 and 3 settle the second of these.
        due("judge(0)", x.judge(0), REFUTED);
        int[] want = {3, 2, 1, 2};
        for (int k = 0; k < 4; k++) {
            due("refuted(" + k + ")", x.refuted(k), want[k]);
        }
        RewriteChecks y = withSigns(0, 1, 2);
        int a = y.variable(0);
        int b = y.variable(1);
        y.rule(y.term(2, a, b), y.term(0, 0, 0));
        y.tables(2);
        y.cell(2, 0, 1, 1);
        y.cell(2, 2, 0, 1);
        due("judge(0)", y.judge(0), REFUTED);
        due("VARIABLE 0 goes fastest", y.refuted(0), 2);
        due("refuted(1)", y.refuted(1), 0);
        y.cell(2, 2, 0, 0);
        due("judge(0)", y.judge(0), REFUTED);
        due("VARIABLE 0 begins again at 0", y.refuted(0), 0);
        due("refuted(1)", y.refuted(1), 1);
        y.cell(2, 0, 1, 0);
        due("judge(0)", y.judge(0), TRIED);
    }

    private static void notInLeft() {
        RewriteChecks x = withSigns(0, 1, 2);
        int v = x.variable(2);
        int c = x.term(0, 0, 0);
        x.rule(x.term(1, v, 0), c);
        x.rule(c, x.term(1, c, 0));
        x.tables(3);
        x.has(0, 3);
        x.cell(1, 3, 0, 2);
        due("judge(0)", x.judge(0), REFUTED);
        int[] want = {0, 0, 3, 0};
        for (int k = 0; k < 4; k++) {
            due("refuted(" + k + ")", x.refuted(k), want[k]);
        }
        x.on(0, false);
        due("no VARIABLES", x.judge(1), TRIED);
        due("refuted(2)", x.refuted(2), NONE);
        x.cell(0, 0, 0, 1);
        due("no VARIABLES", x.judge(1), REFUTED);
        due("refuted(2)", x.refuted(2), 0);
    }

    private static void refutedStays() {
        RewriteChecks x = withSigns(0, 1, 2);
        int v = x.variable(1);
        x.rule(x.term(1, v, 0), v);
        x.tables(2);
        due("judge(0)", x.judge(0), REFUTED);
        due("refuted(1)", x.refuted(1), 1);
        due("judge(5)", x.judge(5), BAD);
        x.tables(1);
        x.has(1, 0);
        x.value(0);
        due("refuted(1) stays", x.refuted(1), 1);
        due("refuted(4)", x.refuted(4), BAD);
        due("clear()", x.clear(), 2);
        due("refuted(1)", x.refuted(1), NONE);
    }

    private static void fullJudge() {
        RewriteChecks x = withSigns(0, 1, 2);
        int c = x.term(0, 0, 0);
        int v = x.variable(0);
        int gv = x.term(1, v, 0);
        x.rule(c, x.term(1, c, 0));
        x.rule(gv, v);
        x.on(1, false);
        x.tables(1);
        int fcc = x.term(2, c, c);
        x.rule(fcc, c);
        x.on(2, false);
        int last = c;
        for (int k = 0; k < 9; k++) {
            due("normal", x.normal(last, 0), RewriteChecks.OPEN);
            last = x.count(1) - 1;
        }
        due("judge(1)", x.judge(1), REFUTED);
        due("refuted(0)", x.refuted(0), 1);
        int before = x.count(1);
        // f(c, c) needs two TERMS a STEP, and FULL goes ahead of what TABLES would say
        due("judge(2)", x.judge(2), FULL);
        due("nothing is made", x.count(1), before);
        due("refuted(0) stays", x.refuted(0), 1);
        due("used stays", x.used(NONE, 0), 100);
    }

    /** By way 0 f(v, w) -> v ends what by way 1 goes on without end. */
    private static void wayZero() {
        RewriteChecks x = withSigns(0, 1, 2);
        int v = x.variable(0);
        int w = x.variable(1);
        int c = x.term(0, 0, 0);
        int gc = x.term(1, c, 0);
        x.rule(x.term(2, v, w), v);
        x.rule(gc, gc);
        x.sign(0, 1);
        int d = x.term(3, 0, 0);
        int left = x.term(2, d, gc);
        x.rule(left, d);
        x.rule(d, left);
        due("LEFT by way 1", x.normal(left, 1), RewriteChecks.OPEN);
        x.on(3, false);
        due("LEFT's NORMAL by way 0", x.judge(2), PROVED);
        x.on(2, false);
        due("RIGHT's NORMAL by way 0", x.judge(3), PROVED);
    }

    private static void manyCalls() {
        RewriteChecks x = withSigns(0, 1, 2);
        int v = x.variable(0);
        int t = v;
        for (int k = 0; k < 29; k++) {
            t = x.term(1, t, 0);
        }
        x.rule(t, v);
        x.tables(3);
        for (int k = 0; k < 4; k++) {
            x.cell(1, k, 0, (k + 1) % 4);
        }
        for (int k = 0; k < 200; k++) {
            int has = k % 4;
            x.has(0, has);
            due("value of the nested", x.value(t), (has + 29) % 4);
        }
        due("judge(0)", x.judge(0), REFUTED);
        for (int k = 0; k < 4; k++) {
            x.cell(1, k, 0, k);
        }
        due("judge(0)", x.judge(0), TRIED);
    }
}
