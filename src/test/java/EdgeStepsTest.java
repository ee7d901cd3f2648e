/**
 * The edges that the document names of PLACES, RULES, STEPS and NORMALS, and in promises 5 to 9.
 * Above each test stands the sentence that it is of.
 */
public final class EdgeStepsTest extends Dues {

    public static void main(String[] args) {
        start();
        ruleTerms();
        leftHasSign();
        variablesToThree();
        variablesOfRight();
        sizeOfLeft();
        sizeOfRight();
        sixteenRules();
        badStateFull();
        refusedRules();
        onAtFirst();
        onBounds();
        fitsOneEach();
        fitsVariables();
        noRuleNoStep();
        stepBounds();
        onePlaceAlone();
        firstPartFirst();
        placesToTheEnd();
        placesBeyondTheEnd();
        lastSign();
        largestRight();
        stepToTheLastTerm();
        refusedSteps();
        refusedWithinRight();
        normalBounds();
        normalOfNone();
        hundredSteps();
        openStays();
        lastTermBehindHundred();
        openAheadOfFull();
        refusedNormals();
        usedBounds();
        usedOfNone();
        usedOfTheLatest();
        usedPastRefused();
        CHECK.finish();
    }

    /** What Busy must be for the tests of refused calls. */
    private static void start() {
        RewriteChecks x = Busy.of(990);
        int[] want = {4, 990, 5, 2, 2};
        for (int what = 0; what <= 4; what++) {
            due("Busy, count(" + what + ")", x.count(what), want[what]);
        }
        due("Busy, used(NONE, 0)", x.used(NONE, 0), 2);
        due("Busy, refuted(1)", x.refuted(1), 1);
        due("Busy, size of the last", x.of(989, 2, 0), 983);
    }

    /** "there is no such thing": LEFT, RIGHT */
    private static void ruleTerms() {
        RewriteChecks x = new RewriteChecks();
        due("rule(0, 0), no TERMS", x.rule(0, 0), BAD);
        x.sign(0, 1);
        x.sign(0, 1);
        x.term(0, 0, 0);
        x.term(1, 0, 0);
        for (int wrong : new int[] {LEAST, -1, 2, 999, 1000, MOST}) {
            due("rule(" + wrong + ", 0)", x.rule(wrong, 0), BAD);
            due("rule(0, " + wrong + ")", x.rule(0, wrong), BAD);
            due("rule(" + wrong + ", " + wrong + ")", x.rule(wrong, wrong), BAD);
        }
        due("count(2)", x.count(2), 0);
        due("rule(1, 0)", x.rule(1, 0), 0);
        due("rule(0, 1)", x.rule(0, 1), 1);
        due("rule(1, 1)", x.rule(1, 1), 2);
    }

    /** "LEFT, a TERM with a SIGN" */
    private static void leftHasSign() {
        RewriteChecks x = small();
        for (int v = 0; v < 8; v++) {
            int t = x.variable(v);
            due("rule(VARIABLE " + v + ", itself)", x.rule(t, t), STATE);
            due("rule(VARIABLE " + v + ", c)", x.rule(t, 0), STATE);
        }
        due("rule(c, d)", x.rule(0, 1), 0);
    }

    /** "both with VARIABLES 0 to 3 alone" */
    private static void variablesToThree() {
        RewriteChecks x = small();
        int made = 0;
        for (int v = 0; v < 8; v++) {
            int t = x.variable(v);
            int g = x.term(1, t, 0);
            due("rule(g(" + v + "), c)", x.rule(g, 0), v <= 3 ? made : STATE);
            made += v <= 3 ? 1 : 0;
            due("rule(g(" + v + "), " + v + ")", x.rule(g, t), v <= 3 ? made : STATE);
            made += v <= 3 ? 1 : 0;
        }
        due("count(2)", x.count(2), 8);
        int mixed = x.term(2, x.variable(3), x.variable(4));
        due("rule(f(3, 4), 3)", x.rule(mixed, x.variable(3)), STATE);
        int all = x.term(2, x.term(2, x.variable(0), x.variable(1)),
                x.term(2, x.variable(2), x.variable(3)));
        due("rule of all four", x.rule(all, all), 8);
    }

    /** "those of RIGHT all in LEFT" */
    private static void variablesOfRight() {
        RewriteChecks x = small();
        int[] v = {x.variable(0), x.variable(1), x.variable(2), x.variable(3)};
        for (int i = 0; i < 4; i++) {
            int left = x.term(1, v[i], 0);
            for (int j = 0; j < 4; j++) {
                due("rule(g(" + i + "), " + j + ")", x.rule(left, v[j]), i == j ? i : STATE);
            }
            due("rule(c, " + i + ")", x.rule(0, v[i]), STATE);
        }
        int f01 = x.term(2, v[0], v[1]);
        due("rule(g(0), f(0, 1))", x.rule(x.term(1, v[0], 0), f01), STATE);
        due("rule(f(0, 1), f(1, 1))", x.rule(f01, x.term(2, v[1], v[1])), 4);
    }

    /** "neither of SIZE above 30": LEFT */
    private static void sizeOfLeft() {
        RewriteChecks x = small();
        int v = x.variable(0);
        int size29 = nested(x, 1, v, 28);
        int size30 = x.term(1, size29, 0);
        due("LEFT of SIZE 30", x.rule(size30, v), 0);
        due("LEFT of SIZE 31", x.rule(x.term(1, size30, 0), v), STATE);
        int size15 = nested(x, 1, v, 14);
        int size14 = nested(x, 1, v, 13);
        due("LEFT of SIZE 15 and 14, and 1", x.rule(x.term(2, size15, size14), v), 1);
        due("LEFT of twice SIZE 15, and 1", x.rule(x.term(2, size15, size15), v), STATE);
        due("count(2)", x.count(2), 2);
        x.sign(1, 9);
        int heavy = v;
        for (int k = 0; k < 29; k++) {
            heavy = x.term(4, heavy, 0);
        }
        due("its WEIGHT may be greater", x.rule(heavy, v), 2);
    }

    /** "neither of SIZE above 30": RIGHT */
    private static void sizeOfRight() {
        RewriteChecks x = small();
        int v = x.variable(0);
        int gv = x.term(1, v, 0);
        int size30 = nested(x, 1, v, 29);
        due("RIGHT of SIZE 30", x.rule(gv, size30), 0);
        due("RIGHT of SIZE 31", x.rule(gv, x.term(1, size30, 0)), STATE);
        int size15 = nested(x, 1, 0, 14);
        int size14 = nested(x, 1, 0, 13);
        due("RIGHT of SIZE 14 and 15, and 1", x.rule(gv, x.term(2, size14, size15)), 1);
        due("RIGHT of twice SIZE 15, and 1", x.rule(gv, x.term(2, size15, size15)), STATE);
        due("both of SIZE 30", x.rule(size30, size30), 2);
        due("count(2)", x.count(2), 3);
    }

    /** "RULES 0 to 15" */
    private static void sixteenRules() {
        RewriteChecks x = small();
        for (int r = 0; r <= 15; r++) {
            due("rule " + r, x.rule(0, 1), r);
        }
        due("a 17th", x.rule(0, 1), FULL);
        due("a 17th once more", x.rule(1, 0), FULL);
        due("count(2)", x.count(2), 16);
        due("the last one is there", x.on(15, false), 1);
        due("RULE 16 is not", x.on(16, false), BAD);
        for (int r = 0; r < 15; r++) {
            x.on(r, false);
        }
        due("all are OFF", x.step(0, 0), NONE);
        x.on(15, true);
        due("the last one is used", x.step(0, 0), 1);
        due("used(0, 0)", x.used(0, 0), 15);
    }

    /** "Calls answer, the first of these that fits: BAD .., STATE .., FULL" */
    private static void badStateFull() {
        RewriteChecks x = small();
        int v = x.variable(0);
        due("BAD ahead of STATE", x.rule(v, 3), BAD);
        due("BAD ahead of STATE", x.rule(-1, v), BAD);
        for (int r = 0; r < 16; r++) {
            x.rule(0, 1);
        }
        due("BAD ahead of STATE, FULL", x.rule(v, 3), BAD);
        due("BAD ahead of FULL", x.rule(0, 3), BAD);
        due("STATE ahead of FULL: LEFT", x.rule(v, 0), STATE);
        due("STATE ahead of FULL: VARIABLES", x.rule(0, v), STATE);
        due("STATE ahead of FULL: SIZE", x.rule(0, nested(x, 1, 0, 30)), STATE);
        due("FULL", x.rule(0, 1), FULL);
    }

    private static void refusedRules() {
        Refusal few = new Refusal(CHECK, () -> Busy.of(120));
        few.due("rule(-1, 0)", x -> x.rule(-1, 0), BAD);
        few.due("rule(0, 120)", x -> x.rule(0, 120), BAD);
        few.due("rule(v0, c)", x -> x.rule(Busy.V0, Busy.C), STATE);
        few.due("rule(g(v0), v1)", x -> x.rule(Busy.GV, Busy.V1), STATE);
        few.due("rule of SIZE 31", x -> x.rule(7 + 30, Busy.C), STATE);
        Refusal full = new Refusal(CHECK, () -> {
            RewriteChecks x = Busy.of(120);
            for (int r = 5; r < 16; r++) {
                x.rule(Busy.GV, Busy.V0);
            }
            return x;
        });
        full.due("a 17th", x -> x.rule(Busy.GV, Busy.C), FULL);
    }

    /** "A RULE is ON (at first) or OFF."; "whether it was (1, 0)" */
    private static void onAtFirst() {
        RewriteChecks x = small();
        x.rule(0, 1);
        due("a STEP by it", x.step(0, 0), 1);
        due("on(0, false): it was ON", x.on(0, false), 1);
        due("on(0, false): it was OFF", x.on(0, false), 0);
        due("no STEP by it", x.step(0, 0), NONE);
        due("on(0, true): it was OFF", x.on(0, true), 0);
        due("on(0, true): it was ON", x.on(0, true), 1);
        due("a STEP by it", x.step(0, 0), 1);
    }

    /** "on: BAD" */
    private static void onBounds() {
        RewriteChecks x = small();
        due("on(0, true), no RULES", x.on(0, true), BAD);
        x.rule(0, 1);
        x.rule(1, 0);
        due("on(1, false)", x.on(1, false), 1);
        for (int wrong : new int[] {LEAST, -1, 2, 15, 16, MOST}) {
            due("on(" + wrong + ", true)", x.on(wrong, true), BAD);
            due("on(" + wrong + ", false)", x.on(wrong, false), BAD);
        }
        Refusal refused = new Refusal(CHECK, () -> Busy.of(120));
        refused.due("on(-1, false)", y -> y.on(-1, false), BAD);
        refused.due("on(5, false)", y -> y.on(5, false), BAD);
    }

    /** "LEFT FITS a TERM, if it becomes that by TERMS in place of its VARIABLES (one in place of each)" */
    private static void fitsOneEach() {
        RewriteChecks x = small();
        int v0 = x.variable(0);
        int v1 = x.variable(1);
        int gc = x.term(1, 0, 0);
        x.rule(x.term(2, v0, x.term(1, v0, 0)), v0);
        due("f(c, g(c))", x.step(x.term(2, 0, gc), 0), 0);
        due("f(d, g(c))", x.step(x.term(2, 1, gc), 0), NONE);
        due("f(c, c)", x.step(x.term(2, 0, 0), 0), NONE);
        due("f(g(c), g(g(c)))", x.step(x.term(2, gc, x.term(1, gc, 0)), 0), gc);
        x.rule(x.term(2, v0, v1), v1);
        due("two VARIABLES may have the same", x.step(x.term(2, 0, 0), 0), 0);
        due("by RULE 1", x.used(0, 0), 1);
    }

    /** The same of TERMS with VARIABLES: they stand for themselves, also those of the RULE's names. */
    private static void fitsVariables() {
        RewriteChecks x = small();
        int v0 = x.variable(0);
        int v1 = x.variable(1);
        int v7 = x.variable(7);
        int f01 = x.term(2, v0, v1);
        int f10 = x.term(2, v1, v0);
        x.rule(f01, f10);
        due("f(0, 1)", x.step(f01, 0), f10);
        due("f(1, 0)", x.step(f10, 0), f01);
        due("f(7, 0)", x.step(x.term(2, v7, v0), 0), x.term(2, v0, v7));
        due("f(1, f(0, 1)) by way 0", x.step(x.term(2, v1, f01), 0), x.term(2, f01, v1));
        x.on(0, false);
        x.rule(x.term(1, 0, 0), 1);
        due("g(c) fits g(c)", x.step(x.term(1, 0, 0), 0), 1);
        due("g(c) does not fit g(v0)", x.step(x.term(1, v0, 0), 0), NONE);
        due("a VARIABLE", x.step(v7, 1), NONE);
    }

    /** "NONE: none can be done" */
    private static void noRuleNoStep() {
        RewriteChecks x = small();
        int g = x.term(1, 0, 0);
        for (int way = 0; way < 2; way++) {
            due("no RULES", x.step(g, way), NONE);
        }
        x.rule(1, 0);
        for (int way = 0; way < 2; way++) {
            due("no RULE that fits", x.step(g, way), NONE);
        }
        x.rule(0, 0);
        for (int way = 0; way < 2; way++) {
            due("a STEP to itself is one", x.step(g, way), g);
            due("used(NONE, 0)", x.used(NONE, 0), 1);
        }
    }

    /** "(way 0, 1)"; "step: BAD" */
    private static void stepBounds() {
        RewriteChecks x = new RewriteChecks();
        due("step(0, 0), no TERMS", x.step(0, 0), BAD);
        RewriteChecks y = small();
        y.rule(1, 0);
        for (int wrong : new int[] {LEAST, -1, 2, 3, MOST}) {
            due("step(1, " + wrong + ")", y.step(1, wrong), BAD);
            due("step(" + wrong + ", 0)", y.step(wrong, 0), BAD);
            due("step(" + wrong + ", 1)", y.step(wrong, 1), BAD);
        }
        due("step(1, 0): the last TERM", y.step(1, 0), 0);
        due("step(1, 1)", y.step(1, 1), 0);
    }

    /** "at a PLACE .. what stands there becomes RIGHT": not what stands so elsewhere */
    private static void onePlaceAlone() {
        RewriteChecks x = small();
        int fcc = x.term(2, 0, 0);
        x.rule(0, 1);
        int fdc = x.term(2, 1, 0);
        for (int way = 0; way < 2; way++) {
            due("f(c, c)", x.step(fcc, way), fdc);
            due("PLACE", x.used(0, 1), 3);
            due("f(d, c)", x.step(fdc, way), x.term(2, 1, 1));
            due("PLACE", x.used(0, 1), 4);
        }
        due("f(f(c, c), f(c, c))", x.step(x.term(2, fcc, fcc), 1), x.term(2, fdc, fcc));
        due("PLACE", x.used(0, 1), 9);
    }

    /** "by way 0 each TERM is looked at ahead of its PARTS, by way 1 behind them; the first PART ahead .." */
    private static void firstPartFirst() {
        RewriteChecks x = small();
        int v = x.variable(0);
        int w = x.variable(1);
        int gc = x.term(1, 0, 0);
        int gd = x.term(1, 1, 0);
        int t = x.term(2, gc, gd);
        x.rule(x.term(2, v, w), w);
        x.rule(x.term(1, v, 0), v);
        x.rule(0, 1);
        long[] places = {1, 3, 9};
        // RULES are turned OFF one by one: by way 0 f, then g in the first PART, then c in g.
        for (int k = 0; k < 3; k++) {
            x.step(t, 0);
            due("way 0, RULE", x.used(0, 0), k);
            due("way 0, PLACE", x.used(0, 1), places[k]);
            x.on(k, false);
        }
        x.on(0, true);
        x.step(t, 1);
        due("way 1, the outermost alone", x.used(0, 1), 1);
        x.on(1, true);
        x.step(t, 1);
        due("way 1, RULE of the first PART", x.used(0, 0), 1);
        due("way 1, PLACE of the first PART", x.used(0, 1), 3);
        x.on(2, true);
        x.step(t, 1);
        due("way 1, RULE of the innermost", x.used(0, 0), 2);
        due("way 1, PLACE of the innermost", x.used(0, 1), 9);
        x.step(x.term(2, 1, gd), 1);
        due("way 1, PLACE of the second PART", x.used(0, 1), 4);
    }

    private static long lowest(int depth) {
        long p = 1;
        for (int k = 0; k < depth; k++) {
            p *= 3;
        }
        return p;
    }

    /** "it itself is 1; its first PART is 3 p, its second one 3 p + 1 .. (as long as that is below 10^17" */
    private static void placesToTheEnd() {
        RewriteChecks x = small();
        x.rule(0, 1);
        int first = 0;
        int second = 0;
        long highest = 1;
        for (int depth = 0; depth <= 35; depth++) {
            for (int way = 0; way < 2; way++) {
                x.step(first, way);
                due("first PARTS, depth " + depth, x.used(0, 1), lowest(depth));
                x.step(second, way);
                due("second PARTS, depth " + depth, x.used(0, 1), highest);
            }
            first = x.term(2, first, 1);
            second = x.term(2, 1, second);
            highest = 3 * highest + 1;
        }
        due("3^35 is below 10^17", lowest(35), 50_031_545_098_999_707L);
    }

    /** "what is above, and all within, is 0": and stays so, however deep */
    private static void placesBeyondTheEnd() {
        for (int kind = 0; kind < 3; kind++) {
            RewriteChecks x = small();
            x.rule(0, 1);
            int t = 0;
            for (int depth = 1; depth <= 140; depth++) {
                boolean inFirst = kind == 0 || kind == 2 && depth % 2 == 0;
                t = inFirst ? x.term(2, t, 1) : x.term(2, 1, t);
                if (depth >= 36) {
                    x.step(t, depth % 2);
                    due("kind " + kind + ", depth " + depth, x.used(0, 1), 0);
                }
            }
        }
    }

    /** "SIGNS 0 to 9": the last one in RULES and STEPS */
    private static void lastSign() {
        RewriteChecks x = small();
        for (int k = 4; k < 10; k++) {
            x.sign(2, 1);
        }
        int v = x.variable(0);
        int w = x.variable(1);
        int left = x.term(9, v, w);
        int swapped = x.term(9, w, v);
        due("rule of SIGN 9", x.rule(left, swapped), 0);
        due("rule of SIGN 9", x.rule(x.term(9, v, v), v), 1);
        due("SIGN 9 has no VARIABLE of its own", x.rule(x.term(9, 0, 1), 0), 2);
        due("step", x.step(x.term(9, 0, 1), 0), x.term(9, 1, 0));
        x.on(0, false);
        due("step", x.step(x.term(9, 1, 1), 1), 1);
        due("step", x.step(x.term(9, 0, 1), 1), 0);
    }

    /** "neither of SIZE above 30": STEPS by the largest RULES */
    private static void largestRight() {
        RewriteChecks x = small();
        int v = x.variable(0);
        int left = x.term(2, v, v);
        int right = nested(x, 1, v, 29);
        int byParts = v;
        for (int k = 0; k < 14; k++) {
            byParts = x.term(2, 0, byParts);
        }
        x.rule(left, right);
        x.rule(x.term(2, v, 0), x.term(1, byParts, 0));
        due("RIGHT of SIZE 30", x.of(right, 2, 0), 30);
        due("RIGHT of SIZE 30", x.of(x.term(1, byParts, 0), 2, 0), 30);
        due("nested 29 deep", x.step(x.term(2, 1, 1), 0), nested(x, 1, 1, 29));
        int t = x.step(x.term(2, 1, 0), 0);
        due("by RULE 1", x.used(0, 0), 1);
        int inner = x.part(t, 0);
        for (int k = 0; k < 14; k++) {
            due("the first PART", x.part(inner, 0), 0);
            inner = x.part(inner, 1);
        }
        due("the innermost", inner, 1);
    }

    /** "1000 at most"; "step: FULL" */
    private static void stepToTheLastTerm() {
        RewriteChecks x = Busy.of(999, 0, true);
        due("a STEP that makes the last TERM", x.step(998, 0), 999);
        due("a STEP that would make one more", x.step(999, 0), FULL);
        due("by way 1", x.step(999, 1), FULL);
        due("a STEP to what is there", x.step(998, 1), 999);
        due("NONE, full", x.step(Busy.V0, 0), NONE);
        due("BAD, full", x.step(1000, 0), BAD);
        RewriteChecks y = Busy.of(990, 1, true);
        due("a STEP that makes the last ten", y.step(989, 1), 999);
        due("count(1)", y.count(1), 1000);
    }

    private static void refusedSteps() {
        Refusal ten = new Refusal(CHECK, () -> Busy.of(991, 1, true));
        for (int way = 0; way < 2; way++) {
            int by = way;
            ten.due("a STEP that would make ten, of which nine may be", x -> x.step(990, by), FULL);
        }
        Refusal one = new Refusal(CHECK, () -> Busy.of(1000, 0, true));
        one.due("a STEP that would make one", x -> x.step(999, 0), FULL);
        one.due("step(1000, 0)", x -> x.step(1000, 0), BAD);
        one.due("step(-1, 0)", x -> x.step(-1, 0), BAD);
        one.due("step(0, 2)", x -> x.step(0, 2), BAD);
        one.due("step(0, -1)", x -> x.step(0, -1), BAD);
    }

    // Of growing(): g(k(d)), whose STEP makes five TERMS.
    private static final int GKD = 9;

    /** k(v) -> f(g(g(v)), f(v, v)) is RULE 2; there are no TERMS g(d), f(d, d) yet. */
    private static RewriteChecks growing(int terms) {
        RewriteChecks x = small();
        x.sign(1, 1);
        x.sign(1, 1);
        int v = x.variable(0);
        int ggv = nested(x, 1, v, 2);
        int right = x.term(2, ggv, x.term(2, v, v));
        int kv = x.term(4, v, 0);
        int kd = x.term(4, 1, 0);
        due("g(k(d))", x.term(1, kd, 0), GKD);
        Fill.to(x, 0, 5, terms);
        x.rule(kv, right);
        return x;
    }

    /** "FULL: then nothing changes, also no TERM is made": at each of the five TERMS of a STEP */
    private static void refusedWithinRight() {
        for (int way = 0; way < 2; way++) {
            int by = way;
            RewriteChecks x = growing(995);
            due("five TERMS", x.step(GKD, by), 999);
            due("g(d)", x.part(995, 0), 1);
            due("g(g(d))", x.part(996, 0), 995);
            due("f(d, d)", x.part(997, 0), 1);
            due("f(g(g(d)), f(d, d))", x.part(998, 1), 997);
            due("the whole", x.part(999, 0), 998);
            for (int terms = 996; terms <= 1000; terms++) {
                int there = terms;
                Refusal refused = new Refusal(CHECK, () -> growing(there));
                refused.due("step, " + there, y -> y.step(GKD, by), FULL);
                refused.due("normal, " + there, y -> y.normal(GKD, by), FULL);
            }
        }
    }

    /** "normal: BAD" */
    private static void normalBounds() {
        RewriteChecks x = new RewriteChecks();
        due("normal(0, 0), no TERMS", x.normal(0, 0), BAD);
        RewriteChecks y = small();
        y.rule(1, 0);
        for (int wrong : new int[] {LEAST, -1, 2, 3, MOST}) {
            due("normal(1, " + wrong + ")", y.normal(1, wrong), BAD);
            due("normal(" + wrong + ", 0)", y.normal(wrong, 0), BAD);
            due("normal(" + wrong + ", 1)", y.normal(wrong, 1), BAD);
        }
        due("normal(1, 0): the last TERM", y.normal(1, 0), 0);
        due("normal(1, 1)", y.normal(1, 1), 0);
    }

    /** "NORMAL is what a TERM becomes by STEPS, when none can be done": by none at all */
    private static void normalOfNone() {
        RewriteChecks x = small();
        int v = x.variable(5);
        for (int way = 0; way < 2; way++) {
            due("no RULES", x.normal(0, way), 0);
            due("a VARIABLE", x.normal(v, way), v);
            due("used(NONE, 0)", x.used(NONE, 0), 0);
            due("used(0, 0)", x.used(0, 0), NONE);
        }
        x.rule(0, 1);
        x.on(0, false);
        due("no RULE that is ON", x.normal(0, 0), 0);
        x.on(0, true);
        due("one STEP", x.normal(0, 0), 1);
        due("used(NONE, 0)", x.used(NONE, 0), 1);
    }

    /** "OPEN, when 100 were done, and one more can be" */
    private static void hundredSteps() {
        for (int way = 0; way < 2; way++) {
            for (int many = 99; many <= 102; many++) {
                RewriteChecks x = small();
                int v = x.variable(0);
                x.rule(x.term(1, v, 0), v);
                int t = nested(x, 1, 0, many);
                due(many + " STEPS", x.normal(t, way), many <= 100 ? 0 : OPEN);
                int used = Math.min(many, 100);
                due("used(NONE, 0)", x.used(NONE, 0), used);
                due("used(last, 0)", x.used(used - 1, 0), 0);
                due("used(last, 1)", x.used(used - 1, 1), usedPlace(way, many, used));
                due("used(beyond, 0)", x.used(used, 0), NONE);
                due("used(beyond, 1)", x.used(used, 1), NONE);
            }
        }
    }

    /** By way 1 the innermost g goes first: STEP k of many is at the depth many - 1 - k. */
    private static long usedPlace(int way, int many, int used) {
        return way == 0 ? 1 : lowest(many - used);
    }

    /** "TERMS that are made by a call that is not refused stay." */
    private static void openStays() {
        RewriteChecks x = small();
        x.rule(0, x.term(1, 0, 0));
        int many = x.count(1);
        due("normal(c, 0)", x.normal(0, 0), OPEN);
        due("count(1): g(c) was there", x.count(1), many + 99);
        due("the last one", x.of(many + 98, 2, 0), 101);
        due("normal(c, 1)", x.normal(0, 1), OPEN);
        due("count(1): all were there", x.count(1), many + 99);
        due("normal of the last", x.normal(many + 98, 1), OPEN);
        due("count(1)", x.count(1), many + 199);
    }

    /** SIGN 4 is h (one PART), the RULE 2 h(g(v)) -> h(v): 100 STEPS of h(g(..)) make 100 TERMS. */
    private static RewriteChecks counting(int terms, int nesting) {
        RewriteChecks x = small();
        x.sign(1, 1);
        int v = x.variable(0);
        int hv = x.term(4, v, 0);
        int hgv = x.term(4, x.term(1, v, 0), 0);
        Fill.to(x, 0, 1, terms - 1);
        x.rule(hgv, hv);
        due("h(g(..))", x.term(4, hgv + nesting, 0), terms - 1);
        return x;
    }

    /** 100 STEPS, and "1000 at most" */
    private static void lastTermBehindHundred() {
        for (int way = 0; way < 2; way++) {
            RewriteChecks x = counting(900, 100);
            due("the 100th STEP makes the last TERM", x.normal(899, way), 999);
            due("used(NONE, 0)", x.used(NONE, 0), 100);
            due("it is h(c)", x.part(999, 0), 0);
            RewriteChecks y = counting(901, 100);
            due("the 100th STEP would make one more", y.normal(900, way), FULL);
            due("count(1)", y.count(1), 901);
        }
    }

    /** "OPEN, when 100 were done, and one more can be": it is not done, so it can't be FULL */
    private static void openAheadOfFull() {
        RewriteChecks x = counting(900, 101);
        due("100 STEPS fill it, one more can be", x.normal(899, 0), OPEN);
        due("count(1)", x.count(1), 1000);
        due("used(NONE, 0)", x.used(NONE, 0), 100);
        RewriteChecks y = Busy.of(900, 0, true);
        due("100 STEPS fill it, one more can be", y.normal(899, 1), OPEN);
        due("count(1)", y.count(1), 1000);
        RewriteChecks z = Busy.of(901, 0, true);
        due("the 100th is too many", z.normal(900, 1), FULL);
        due("count(1)", z.count(1), 901);
    }

    private static void refusedNormals() {
        for (int way = 0; way < 2; way++) {
            int by = way;
            Refusal hundred = new Refusal(CHECK, () -> Busy.of(901, 0, true));
            hundred.due("99 STEPS, and one too many", x -> x.normal(900, by), FULL);
            Refusal one = new Refusal(CHECK, () -> Busy.of(1000, 0, true));
            one.due("one TERM too many", x -> x.normal(999, by), FULL);
            one.due("normal(1000, way)", x -> x.normal(1000, by), BAD);
            one.due("normal(-1, way)", x -> x.normal(-1, by), BAD);
            one.due("normal(0, 2)", x -> x.normal(0, 2), BAD);
        }
    }

    /** "k = NONE: how many there were. NONE: no such. BAD: what." */
    private static void usedBounds() {
        RewriteChecks x = Busy.of(120);
        long[][] want = {{2, 1}, {3, 1}};
        for (int k = 0; k < 2; k++) {
            due("used(" + k + ", 0)", x.used(k, 0), want[k][0]);
            due("used(" + k + ", 1)", x.used(k, 1), want[k][1]);
        }
        for (int wrong : new int[] {LEAST, -5, -4, -3, -2, 2, 99, 100, MOST}) {
            due("used(" + wrong + ", 0)", x.used(wrong, 0), NONE);
            due("used(" + wrong + ", 1)", x.used(wrong, 1), NONE);
        }
        due("used(NONE, 0)", x.used(NONE, 0), 2);
        due("used(NONE, 1)", x.used(NONE, 1), 2);
        for (int wrong : new int[] {LEAST, -2, -1, 2, 3, MOST}) {
            due("used(0, " + wrong + ")", x.used(0, wrong), BAD);
            due("used(NONE, " + wrong + ")", x.used(NONE, wrong), BAD);
            due("used(2, " + wrong + ")", x.used(2, wrong), BAD);
        }
    }

    /** What is told of no STEPS: of none ever, and of a call that did none. */
    private static void usedOfNone() {
        RewriteChecks x = small();
        due("used(NONE, 0)", x.used(NONE, 0), 0);
        due("used(0, 0)", x.used(0, 0), NONE);
        due("used(0, 2)", x.used(0, 2), BAD);
        x.rule(0, 1);
        due("step(c, 0)", x.step(0, 0), 1);
        due("used(NONE, 0)", x.used(NONE, 0), 1);
        due("step(d, 0)", x.step(1, 0), NONE);
        due("used(NONE, 0)", x.used(NONE, 0), 0);
        due("used(0, 1)", x.used(0, 1), NONE);
        x.step(0, 0);
        due("normal(d, 0)", x.normal(1, 0), 1);
        due("used(NONE, 0)", x.used(NONE, 0), 0);
    }

    /** "Of STEP k of the latest step(), normal()": not of what other calls do */
    private static void usedOfTheLatest() {
        RewriteChecks x = Busy.of(120);
        due("pairs()", x.pairs(), 2);
        due("pair(0, 5)", x.pair(0, 5), 1);
        x.on(0, true);
        due("judge(3), RIGHT's NORMAL being OPEN", x.judge(3), 2);
        x.on(0, false);
        due("used(NONE, 0)", x.used(NONE, 0), 2);
        due("used(0, 0)", x.used(0, 0), 2);
        due("used(1, 0)", x.used(1, 0), 3);
        x.on(2, false);
        due("normal(f(c, d), 0) by RULES 3 and 4", x.normal(Busy.FCD, 0), Busy.C);
        due("used(0, 0)", x.used(0, 0), 3);
        due("used(0, 1)", x.used(0, 1), 4);
        due("used(1, 0)", x.used(1, 0), 4);
        due("step(d, 0)", x.step(Busy.D, 0), Busy.C);
        due("used(NONE, 0)", x.used(NONE, 0), 1);
    }

    /** "that was not refused" */
    private static void usedPastRefused() {
        RewriteChecks x = Busy.of(1000, 0, true);
        due("step, FULL", x.step(999, 0), FULL);
        due("normal, FULL", x.normal(999, 1), FULL);
        due("step, BAD", x.step(1000, 0), BAD);
        due("normal, BAD", x.normal(0, 2), BAD);
        due("used(NONE, 0)", x.used(NONE, 0), 2);
        due("used(0, 0)", x.used(0, 0), 2);
        due("used(1, 0)", x.used(1, 0), 3);
        due("used(1, 1)", x.used(1, 1), 1);
        due("used(2, 0)", x.used(2, 0), NONE);
    }
}
