/** The edges of ABOVE and ENDS: promises 10 and 11. Above each test stands its sentence. */
public final class EdgeOrderTest extends Dues {

    public static void main(String[] args) {
        ruleBounds();
        termBounds();
        sizesAbove();
        badAheadOfState();
        noMoreOften();
        weights();
        sameWeightSigns();
        variables();
        firstPartsThatDiffer();
        partsAboveSo();
        refused();
        CHECK.finish();
    }

    /** SIGNS 0 to 3 without PARTS, of WEIGHTS 1, 2, 2, 3; 4 (g, one), 5 (h, one), 6 (f, two), of 1. */
    private static RewriteChecks seven() {
        RewriteChecks x = new RewriteChecks();
        int[][] signs = {{0, 1}, {0, 2}, {0, 2}, {0, 3}, {1, 1}, {1, 1}, {2, 1}};
        for (int[] s : signs) {
            x.sign(s[0], s[1]);
        }
        for (int s = 0; s < 4; s++) {
            x.term(s, 0, 0);
        }
        return x;
    }

    /** "Whether a RULE ENDS: 1, 0. BAD." */
    private static void ruleBounds() {
        RewriteChecks x = seven();
        due("ends(0), no RULES", x.ends(0), BAD);
        x.rule(1, 0);
        x.rule(0, 1);
        due("ends(0)", x.ends(0), 1);
        due("ends(1): the last RULE", x.ends(1), 0);
        for (int wrong : new int[] {LEAST, -1, 2, 15, 16, MOST}) {
            due("ends(" + wrong + ")", x.ends(wrong), BAD);
        }
        for (int r = 2; r < 16; r++) {
            x.rule(1, 0);
        }
        due("ends(15)", x.ends(15), 1);
        due("ends(16)", x.ends(16), BAD);
        x.on(15, false);
        due("ends(15), OFF", x.ends(15), 1);
    }

    /** "Whether a TERM is ABOVE another one: 1, 0. BAD" */
    private static void termBounds() {
        RewriteChecks x = new RewriteChecks();
        due("above(0, 0), no TERMS", x.above(0, 0), BAD);
        RewriteChecks y = seven();
        for (int wrong : new int[] {LEAST, -1, 4, 999, 1000, MOST}) {
            due("above(" + wrong + ", 0)", y.above(wrong, 0), BAD);
            due("above(0, " + wrong + ")", y.above(0, wrong), BAD);
        }
        due("above(3, 0): the last TERM", y.above(3, 0), 1);
        due("above(0, 3): the last TERM", y.above(0, 3), 0);
        due("above(3, 3): of itself", y.above(3, 3), 0);
    }

    /** "STATE: a SIZE is above 30" */
    private static void sizesAbove() {
        RewriteChecks x = seven();
        int v = x.variable(7);
        int size29 = nested(x, 4, v, 28);
        int size30 = nested(x, 4, v, 29);
        int size31 = nested(x, 4, v, 30);
        due("SIZES 30, 29", x.above(size30, size29), 1);
        due("SIZES 29, 30", x.above(size29, size30), 0);
        due("SIZES 30, 30", x.above(size30, size30), 0);
        due("SIZES 31, 30", x.above(size31, size30), STATE);
        due("SIZES 30, 31", x.above(size30, size31), STATE);
        due("SIZES 31, 31", x.above(size31, size31), STATE);
        due("SIZES 31, 1", x.above(size31, v), STATE);
        due("SIZES 1, 31", x.above(v, size31), STATE);
        int size15 = nested(x, 4, v, 14);
        int size14 = nested(x, 4, v, 13);
        due("SIZE 15 and 14, and 1", x.above(x.term(6, size15, size14), v), 1);
        due("twice SIZE 15, and 1", x.above(x.term(6, size15, size15), v), STATE);
        int heavy = nested(x, 4, 3, 29);
        due("SIZE 30, WEIGHT 32", x.above(heavy, 0), 1);
    }

    private static void badAheadOfState() {
        RewriteChecks x = seven();
        int size31 = nested(x, 4, 0, 30);
        due("above(SIZE 31, -1)", x.above(size31, -1), BAD);
        due("above(size31 + 1, SIZE 31)", x.above(size31 + 1, size31), BAD);
        due("above(SIZE 31, c)", x.above(size31, 0), STATE);
    }

    /** "no VARIABLE stands in t more often than in s" */
    private static void noMoreOften() {
        RewriteChecks x = seven();
        for (int v = 0; v < 8; v++) {
            int t = x.variable(v);
            int one = x.term(4, t, 0);
            int two = x.term(6, t, t);
            int heavyOne = x.term(6, x.term(4, one, 0), 3);
            due("once and once, VARIABLE " + v, x.above(heavyOne, one), 1);
            due("once and twice, VARIABLE " + v, x.above(heavyOne, two), 0);
            due("twice and twice, VARIABLE " + v, x.above(x.term(4, two, 0), two), 1);
            due("never and once, VARIABLE " + v, x.above(3, t), 0);
            due("once and never, VARIABLE " + v, x.above(one, 0), 1);
        }
    }

    /** "THE WEIGHT of s is greater" */
    private static void weights() {
        RewriteChecks x = seven();
        due("WEIGHTS 2, 1", x.above(1, 0), 1);
        due("WEIGHTS 1, 2", x.above(0, 1), 0);
        due("WEIGHTS 3, 2", x.above(3, 2), 1);
        due("WEIGHTS 2, 3, the SIGN being greater", x.above(x.term(4, 0, 0), 3), 0);
        due("WEIGHTS 3, 2, the SIGN being less", x.above(3, x.term(4, 0, 0)), 1);
    }

    /** "or they are the same, and: .. s's SIGN has a greater number than t's" */
    private static void sameWeightSigns() {
        RewriteChecks x = seven();
        int v = x.variable(0);
        int g = x.term(4, v, 0);
        int h = x.term(5, v, 0);
        due("SIGNS 2, 1", x.above(2, 1), 1);
        due("SIGNS 1, 2", x.above(1, 2), 0);
        due("SIGNS 5, 4", x.above(h, g), 1);
        due("SIGNS 4, 5", x.above(g, h), 0);
        due("the same SIGN", x.above(g, g), 0);
        due("SIGNS 5, 4 of other VARIABLES", x.above(h, x.term(4, x.variable(1), 0)), 0);
    }

    /** "t is a VARIABLE and s is none" */
    private static void variables() {
        RewriteChecks x = seven();
        int v = x.variable(0);
        int w = x.variable(1);
        due("v0, v0", x.above(v, v), 0);
        due("v0, v1", x.above(v, w), 0);
        due("v1, v0", x.above(w, v), 0);
        due("c, v0 of the same WEIGHT", x.above(0, v), 0);
        due("v0, c of the same WEIGHT", x.above(v, 0), 0);
        due("g(v0), v0", x.above(x.term(4, v, 0), v), 1);
        due("v0, g(v0)", x.above(v, x.term(4, v, 0)), 0);
    }

    /** "or they have the same, and the first PARTS that differ are ABOVE so" */
    private static void firstPartsThatDiffer() {
        RewriteChecks x = seven();
        due("f(2, 1), f(1, 2)", x.above(x.term(6, 2, 1), x.term(6, 1, 2)), 1);
        due("f(1, 2), f(2, 1)", x.above(x.term(6, 1, 2), x.term(6, 2, 1)), 0);
        due("f(1, 2), f(1, 1)", x.above(x.term(6, 1, 2), x.term(6, 1, 1)), 1);
        due("f(1, 1), f(1, 2)", x.above(x.term(6, 1, 1), x.term(6, 1, 2)), 0);
        due("f(1, 2), f(1, 2)", x.above(x.term(6, 1, 2), x.term(6, 1, 2)), 0);
        due("f(3, 0), f(1, 2)", x.above(x.term(6, 3, 0), x.term(6, 1, 2)), 1);
        due("f(0, 3), f(2, 1)", x.above(x.term(6, 0, 3), x.term(6, 2, 1)), 0);
        due("g(2), g(1)", x.above(x.term(4, 2, 0), x.term(4, 1, 0)), 1);
        due("g(1), g(2)", x.above(x.term(4, 1, 0), x.term(4, 2, 0)), 0);
        int high = nested(x, 4, 2, 29);
        int low = nested(x, 4, 1, 29);
        due("29 deep", x.above(high, low), 1);
        due("29 deep, turned", x.above(low, high), 0);
    }

    /** The same: they too may have no VARIABLE more often. */
    private static void partsAboveSo() {
        RewriteChecks x = seven();
        int v = x.variable(0);
        int w = x.variable(1);
        due("f(3, v), f(v, 3)", x.above(x.term(6, 3, v), x.term(6, v, 3)), 0);
        due("f(v, 3), f(3, v)", x.above(x.term(6, v, 3), x.term(6, 3, v)), 0);
        due("f(v, w), f(w, v)", x.above(x.term(6, v, w), x.term(6, w, v)), 0);
        int gv = x.term(4, v, 0);
        int gw = x.term(4, w, 0);
        int hv = x.term(5, v, 0);
        due("f(g(v), w), f(v, g(w))", x.above(x.term(6, gv, w), x.term(6, v, gw)), 1);
        due("f(v, g(w)), f(g(v), w)", x.above(x.term(6, v, gw), x.term(6, gv, w)), 0);
        due("f(w, h(v)), f(w, g(v))", x.above(x.term(6, w, hv), x.term(6, w, gv)), 1);
        due("f(h(v), g(w)), f(g(v), h(w))",
                x.above(x.term(6, hv, gw), x.term(6, gv, x.term(5, w, 0))), 1);
    }

    private static void refused() {
        Refusal busy = new Refusal(CHECK, () -> Busy.of(120));
        busy.due("ends(-1)", x -> x.ends(-1), BAD);
        busy.due("ends(5)", x -> x.ends(5), BAD);
        busy.due("above(120, 0)", x -> x.above(120, 0), BAD);
        busy.due("above(0, -1)", x -> x.above(0, -1), BAD);
        busy.due("above(SIZE 31, c)", x -> x.above(7 + 30, 0), STATE);
        RewriteChecks y = Busy.of(1000);
        due("ends(2), full of TERMS", y.ends(2), 1);
        due("above(f(v0, v1), v1), full of TERMS", y.above(Busy.FVW, Busy.V1), 1);
        due("count(1)", y.count(1), 1000);
    }
}
