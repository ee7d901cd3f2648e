/** The edges of TABLES and of TO JUDGE: promises 14 to 19. Above each test stands its sentence. */
public final class EdgeTablesTest extends Dues {

    public static void main(String[] args) {
        howManyValues();
        inPlaceOfOthers();
        refusedTables();
        stateFirst();
        cellSigns();
        cellsAtFirst();
        cellBounds();
        cellBeyondArity();
        refusedCells();
        hasBounds();
        hasAtFirst();
        refusedHas();
        valueBounds();
        openCountsAsN();
        valuesOfAll();
        laterSigns();
        firstAndLastSign();
        judgeBounds();
        provedByOthers();
        provedBehindHundred();
        withoutTables();
        firstAndLast();
        fastest();
        notInLeft();
        noVariables();
        hasIsNotAsked();
        largestRules();
        judgeOpen();
        judgeTermsStay();
        lastTermOfJudge();
        refusedJudges();
        refutedBounds();
        refutedOfTheLatest();
        CHECK.finish();
    }

    private static RewriteChecks withTables(int n) {
        RewriteChecks x = small();
        x.tables(n);
        return x;
    }

    /** "neither of SIZE above 30": LEFT and RIGHT nested as deep as can be */
    private static void largestRules() {
        RewriteChecks x = withSigns(0, 1, 1);
        int v = x.variable(0);
        x.rule(nested(x, 1, v, 29), nested(x, 2, v, 29));
        x.tables(3);
        for (int has = 0; has <= 3; has++) {
            x.cell(1, has, 0, has);
            x.cell(2, has, 0, has);
        }
        due("judge(0), both being what v0 has", x.judge(0), TRIED);
        x.cell(1, 3, 0, 2);
        due("judge(0), LEFT not", x.judge(0), REFUTED);
        due("refuted(0)", x.refuted(0), 3);
        x.cell(1, 3, 0, 3);
        x.cell(2, 2, 0, 3);
        due("judge(0), RIGHT not", x.judge(0), REFUTED);
        due("refuted(0)", x.refuted(0), 2);
    }

    /** "TABLES: n VALUES (1 to 3)" */
    private static void howManyValues() {
        RewriteChecks x = new RewriteChecks();
        for (int wrong : new int[] {LEAST, -1, 0, 4, 5, MOST}) {
            due("tables(" + wrong + ")", x.tables(wrong), BAD);
            due("count(4)", x.count(4), 0);
        }
        for (int n = 1; n <= 3; n++) {
            due("tables(" + n + ")", x.tables(n), n);
            due("count(4)", x.count(4), n);
            due("has(0, " + n + ")", x.has(0, n), 0);
            due("has(0, " + (n + 1) + ")", x.has(0, n + 1), BAD);
        }
    }

    /** "TABLES of n VALUES, all 0, in place of others: n." */
    private static void inPlaceOfOthers() {
        for (int n = 1; n <= 3; n++) {
            RewriteChecks x = withTables(3);
            for (int at = 0; at < 16; at++) {
                x.cell(2, at / 4, at % 4, 3);
            }
            for (int a = 0; a < 4; a++) {
                x.cell(1, a, 0, 2);
            }
            x.cell(0, 0, 0, 1);
            due("tables(" + n + ")", x.tables(n), n);
            for (int a = 0; a <= n; a++) {
                due("g's TABLE is all 0", x.cell(1, a, 0, 0), 0);
                for (int b = 0; b <= n; b++) {
                    due("f's TABLE is all 0", x.cell(2, a, b, 0), 0);
                }
            }
            due("c's TABLE is 0", x.cell(0, 0, 0, 0), 0);
            x.cell(2, n, n, n);
            x.tables(3);
            due("what is there is gone, also by more VALUES", x.cell(2, n, n, 0), 0);
        }
    }

    private static void refusedTables() {
        Refusal busy = new Refusal(CHECK, () -> Busy.of(120));
        for (int wrong : new int[] {LEAST, -1, 0, 4, MOST}) {
            busy.due("tables(" + wrong + ")", x -> x.tables(wrong), BAD);
        }
        Refusal none = new Refusal(CHECK, EdgeTablesTest::small);
        none.due("tables(0)", x -> x.tables(0), BAD);
    }

    /** "STATE (first): there are none; BAD." */
    private static void stateFirst() {
        RewriteChecks x = small();
        for (int odd : new int[] {LEAST, -1, 0, 1, 4, MOST}) {
            due("cell, no TABLES", x.cell(odd, odd, odd, odd), STATE);
            due("has, no TABLES", x.has(odd, odd), STATE);
            due("value, no TABLES", x.value(odd), STATE);
        }
        Refusal none = new Refusal(CHECK, EdgeTablesTest::small);
        none.due("cell(0, 0, 0, 0)", y -> y.cell(0, 0, 0, 0), STATE);
        none.due("has(0, 0)", y -> y.has(0, 0), STATE);
        none.due("value(0)", y -> y.value(0), STATE);
        x.tables(1);
        due("cell(0, 0, 0, 1)", x.cell(0, 0, 0, 1), 0);
        due("has(0, 1)", x.has(0, 1), 0);
        due("value(0)", x.value(0), 1);
    }

    /** "there is no such thing": a SIGN */
    private static void cellSigns() {
        RewriteChecks x = new RewriteChecks();
        x.tables(2);
        due("cell(0, 0, 0, 0), no SIGNS", x.cell(0, 0, 0, 0), BAD);
        for (int s = 0; s < 10; s++) {
            due("SIGN " + s + " is not there", x.cell(s, 0, 0, 0), BAD);
            x.sign(s % 3, 1);
            due("SIGN " + s, x.cell(s, 0, 0, 2), 0);
        }
        for (int wrong : new int[] {LEAST, -1, 10, 11, MOST}) {
            due("cell(" + wrong + ", 0, 0, 0)", x.cell(wrong, 0, 0, 0), BAD);
        }
        for (int s = 0; s < 10; s++) {
            due("SIGN " + s + " has its own", x.cell(s, 0, 0, 1), 2);
        }
    }

    /** "for each SIGN a VALUE or OPEN for each row of VALUES or OPEN of its PARTS (at first 0)" */
    private static void cellsAtFirst() {
        for (int n = 1; n <= 3; n++) {
            RewriteChecks x = withTables(n);
            int side = n + 1;
            for (int at = 0; at < side * side; at++) {
                due("f, at first", x.cell(2, at / side, at % side, (at + 1) % side), 0);
            }
            for (int a = 0; a < side; a++) {
                due("g, at first", x.cell(1, a, 0, n - a), 0);
            }
            due("c, at first", x.cell(0, 0, 0, n), 0);
            due("d, at first", x.cell(3, 0, 0, 0), 0);
            for (int at = 0; at < side * side; at++) {
                due("f, what it was", x.cell(2, at / side, at % side, 0), (at + 1) % side);
            }
            for (int a = 0; a < side; a++) {
                due("g, what it was", x.cell(1, a, 0, 0), n - a);
            }
            due("c, what it was", x.cell(0, 0, 0, 0), n);
            due("d, what it was", x.cell(3, 0, 0, 0), 0);
        }
    }

    /** "at a, b (0 to n ..), becomes v (0 to n)" */
    private static void cellBounds() {
        for (int n = 1; n <= 3; n++) {
            RewriteChecks x = withTables(n);
            due("the last of all", x.cell(2, n, n, n), 0);
            due("the first of all", x.cell(2, 0, 0, 0), 0);
            for (int wrong : new int[] {LEAST, OPEN, -1, n + 1, n + 2, MOST}) {
                due("f, a " + wrong, x.cell(2, wrong, 0, 0), BAD);
                due("f, b " + wrong, x.cell(2, 0, wrong, 0), BAD);
                due("f, v " + wrong, x.cell(2, 0, 0, wrong), BAD);
                due("g, a " + wrong, x.cell(1, wrong, 0, 0), BAD);
                due("g, v " + wrong, x.cell(1, 0, 0, wrong), BAD);
                due("c, v " + wrong, x.cell(0, 0, 0, wrong), BAD);
            }
            due("what it was", x.cell(2, n, n, 0), n);
        }
    }

    /** "(.. what is beyond its ARITY is not looked at)" */
    private static void cellBeyondArity() {
        RewriteChecks x = withTables(2);
        int was = 0;
        for (int odd : new int[] {LEAST, -1, 0, 1, 2, 3, MOST}) {
            due("c at " + odd, x.cell(0, odd, odd, (was + 1) % 3), was);
            due("g at 2, " + odd, x.cell(1, 2, odd, (was + 1) % 3), was);
            was = (was + 1) % 3;
        }
        due("c's VALUE", x.value(0), was);
        x.has(0, 2);
        due("g's VALUE at 2", x.value(x.term(1, x.variable(0), 0)), was);
    }

    private static void refusedCells() {
        Refusal busy = new Refusal(CHECK, () -> Busy.of(120));
        busy.due("no such SIGN", x -> x.cell(4, 0, 0, 1), BAD);
        busy.due("a beyond", x -> x.cell(2, 3, 1, 2), BAD);
        busy.due("b beyond", x -> x.cell(2, 1, 3, 2), BAD);
        busy.due("b below", x -> x.cell(2, 1, -1, 2), BAD);
        busy.due("v beyond", x -> x.cell(2, 1, 1, 3), BAD);
        busy.due("v below", x -> x.cell(2, 1, 1, -1), BAD);
    }

    /** "A VARIABLE has a VALUE or OPEN (0 to n ..)"; "BAD" */
    private static void hasBounds() {
        for (int n = 1; n <= 3; n++) {
            RewriteChecks x = withTables(n);
            due("has(0, n)", x.has(0, n), 0);
            due("has(0, 0)", x.has(0, 0), n);
            due("has(7, n)", x.has(7, n), 0);
            for (int wrong : new int[] {LEAST, OPEN, -1, n + 1, n + 2, MOST}) {
                due("has(7, " + wrong + ")", x.has(7, wrong), BAD);
            }
            for (int wrong : new int[] {LEAST, -1, 8, 9, MOST}) {
                due("has(" + wrong + ", 0)", x.has(wrong, 0), BAD);
            }
            due("has(7, 0)", x.has(7, 0), n);
        }
    }

    /** "at first, and behind tables(), 0" */
    private static void hasAtFirst() {
        RewriteChecks x = withTables(3);
        for (int round = 0; round < 3; round++) {
            for (int v = 0; v < 8; v++) {
                due("has(" + v + ", 1)", x.has(v, 1), 0);
            }
            for (int v = 0; v < 8; v++) {
                due("has(" + v + ", 1) again", x.has(v, 1), 1);
            }
            x.tables(1 + round);
        }
    }

    private static void refusedHas() {
        Refusal busy = new Refusal(CHECK, () -> Busy.of(120));
        busy.due("has(-1, 1)", x -> x.has(-1, 1), BAD);
        busy.due("has(8, 1)", x -> x.has(8, 1), BAD);
        busy.due("has(1, 3)", x -> x.has(1, 3), BAD);
        busy.due("has(1, -1)", x -> x.has(1, -1), BAD);
    }

    /** "value: BAD" */
    private static void valueBounds() {
        RewriteChecks x = new RewriteChecks();
        x.tables(1);
        due("value(0), no TERMS", x.value(0), BAD);
        RewriteChecks y = withTables(1);
        y.cell(3, 0, 0, 1);
        due("value(0)", y.value(0), 0);
        due("value(1): the last TERM", y.value(1), 1);
        for (int wrong : new int[] {LEAST, -1, 2, 999, 1000, MOST}) {
            due("value(" + wrong + ")", y.value(wrong), BAD);
        }
        RewriteChecks z = Busy.of(1000);
        due("value(999)", z.value(999), 0);
        due("value(1000)", z.value(1000), BAD);
        Refusal busy = new Refusal(CHECK, () -> Busy.of(120));
        busy.due("value(-1)", w -> w.value(-1), BAD);
        busy.due("value(120)", w -> w.value(120), BAD);
    }

    /** "OPEN, which counts as n" */
    private static void openCountsAsN() {
        for (int n = 1; n <= 3; n++) {
            RewriteChecks x = withTables(n);
            int v = x.variable(7);
            int g = x.term(1, v, 0);
            x.has(7, n);
            due("a VARIABLE that has OPEN", x.value(v), n);
            due("g of OPEN, at first", x.value(g), 0);
            x.cell(1, n, 0, n);
            due("g of OPEN, OPEN", x.value(g), n);
            due("g of g of OPEN", x.value(x.term(1, g, 0)), n);
            x.has(7, 0);
            due("g of 0", x.value(g), 0);
        }
    }

    /** "VALUE of a TERM ..: that of its SIGN's TABLE at those of its PARTS" */
    private static void valuesOfAll() {
        RewriteChecks x = withTables(3);
        int v = x.variable(0);
        int w = x.variable(1);
        int f = x.term(2, v, w);
        for (int at = 0; at < 16; at++) {
            x.cell(2, at / 4, at % 4, (at * 7 + 3) / 4 % 4);
        }
        for (int at = 0; at < 16; at++) {
            x.has(0, at / 4);
            x.has(1, at % 4);
            due("f at " + at / 4 + ", " + at % 4, x.value(f), (at * 7 + 3) / 4 % 4);
        }
        int deep = f;
        for (int k = 0; k < 200; k++) {
            deep = x.term(2, deep, deep);
        }
        // f(3, 3) is 3, and so it stays 200 deep.
        due("very large", x.value(deep), 3);
    }

    /** "for each SIGN": also one that is made behind tables() */
    private static void laterSigns() {
        RewriteChecks x = withTables(2);
        due("sign", x.sign(0, 1), 4);
        int e = x.term(4, 0, 0);
        due("its VALUE at first", x.value(e), 0);
        due("its TABLE at first", x.cell(4, 0, 0, 2), 0);
        due("its VALUE", x.value(e), 2);
        x.tables(1);
        due("its VALUE in new TABLES", x.value(e), 0);
    }

    /** "SIGNS 0 to 9": the first and the last one, of two PARTS */
    private static void firstAndLastSign() {
        for (int sign = 0; sign <= 9; sign += 9) {
            RewriteChecks x = withSigns(2, 2, 2, 2, 2, 2, 2, 2, 2, 2);
            int f = sign;
            int v = x.variable(0);
            int w = x.variable(1);
            int fvw = x.term(f, v, w);
            int fwv = x.term(f, w, v);
            x.tables(3);
            for (int at = 0; at < 16; at++) {
                due("at first", x.cell(f, at / 4, at % 4, at / 4 * (at % 4) % 4), 0);
            }
            x.rule(fvw, fwv);
            due("as f(w, v)", x.judge(0), TRIED);
            due("what it was", x.cell(f, 3, 2, 1), 2);
            due("another one", x.judge(0), REFUTED);
            due("refuted(0)", x.refuted(0), 3);
            due("refuted(1)", x.refuted(1), 2);
            x.has(0, 3);
            x.has(1, 2);
            due("value(f(v, w))", x.value(fvw), 1);
            due("value(f(w, v))", x.value(fwv), 2);
        }
    }

    /** "TO JUDGE a RULE: 0 to 3. BAD" */
    private static void judgeBounds() {
        RewriteChecks x = small();
        due("judge(0), no RULES", x.judge(0), BAD);
        x.rule(0, 1);
        x.rule(0, 0);
        due("judge(1): the last RULE", x.judge(1), PROVED);
        for (int wrong : new int[] {LEAST, -1, 2, 15, 16, MOST}) {
            due("judge(" + wrong + ")", x.judge(wrong), BAD);
        }
        for (int r = 2; r < 16; r++) {
            x.rule(1, 1);
        }
        due("judge(16)", x.judge(16), BAD);
        for (int r = 0; r < 15; r++) {
            x.on(r, false);
        }
        due("judge(15)", x.judge(15), PROVED);
    }

    /** "PROVED (1), if LEFT and RIGHT have the same NORMAL .. by the other RULES that are ON" */
    private static void provedByOthers() {
        RewriteChecks x = small();
        x.rule(0, 1);
        due("not by itself", x.judge(0), UNDECIDED);
        x.rule(0, 1);
        due("by its like", x.judge(0), PROVED);
        due("and the other way round", x.judge(1), PROVED);
        x.on(0, false);
        due("judged though OFF", x.judge(0), PROVED);
        due("not by one that is OFF", x.judge(1), UNDECIDED);
        x.on(1, false);
        due("none ON", x.judge(0), UNDECIDED);
        x.rule(1, 0);
        due("RIGHT to LEFT", x.judge(0), PROVED);
        x.on(2, false);
        x.rule(0, 0);
        due("OPEN is not the same", x.judge(3), PROVED);
        x.rule(0, 0);
        due("both OPEN", x.judge(3), UNDECIDED);
    }

    /** "(way 0, not OPEN)": 100 STEPS and 101 */
    private static void provedBehindHundred() {
        RewriteChecks x = small();
        x.sign(1, 1);
        x.sign(1, 1);
        x.sign(1, 1);
        x.sign(0, 1);
        int e = x.term(7, 0, 0);
        int t = 1;
        for (int k = 0; k < 25; k++) {
            t = x.term(1, t, 0);
        }
        int v = x.variable(0);
        int[] one = {x.term(1, v, 0), x.term(4, v, 0), x.term(5, v, 0), x.term(6, v, 0), v};
        x.rule(t, 1);
        x.rule(t, e);
        x.on(0, false);
        x.on(1, false);
        for (int k = 0; k < 4; k++) {
            x.rule(one[k], one[k + 1]);
        }
        due("100 STEPS", x.judge(0), PROVED);
        due("100 STEPS to another one", x.judge(1), UNDECIDED);
        x.rule(1, e);
        due("101 STEPS", x.judge(1), UNDECIDED);
        due("101 STEPS", x.judge(0), UNDECIDED);
    }

    /** "else without TABLES OPEN (3)" */
    private static void withoutTables() {
        RewriteChecks x = small();
        x.rule(0, 1);
        due("no TABLES", x.judge(0), UNDECIDED);
        due("refuted(0)", x.refuted(0), NONE);
        x.tables(1);
        due("TABLES", x.judge(0), TRIED);
        due("refuted(0)", x.refuted(0), NONE);
        x.cell(0, 0, 0, 1);
        due("TABLES that differ", x.judge(0), REFUTED);
        due("refuted(0)", x.refuted(0), 0);
        x.rule(1, 0);
        due("PROVED goes ahead", x.judge(0), PROVED);
        due("refuted(0)", x.refuted(0), NONE);
    }

    /** "for some VALUES (OPEN, too) of VARIABLES 0 to 3": from all 0 to all OPEN */
    private static void firstAndLast() {
        for (int n = 1; n <= 3; n++) {
            RewriteChecks x = withTables(n);
            int left = x.term(2, x.term(2, x.variable(0), x.variable(1)),
                    x.term(2, x.variable(2), x.variable(3)));
            x.rule(left, 0);
            due("all 0", x.judge(0), TRIED);
            for (int v = 0; v < 4; v++) {
                due("TRIED, refuted(" + v + ")", x.refuted(v), NONE);
            }
            x.cell(0, 0, 0, 1);
            due("at the first ones", x.judge(0), REFUTED);
            for (int v = 0; v < 4; v++) {
                due("refuted(" + v + ")", x.refuted(v), 0);
            }
            x.cell(0, 0, 0, 0);
            x.cell(2, n, n, n);
            due("at the last ones", x.judge(0), REFUTED);
            for (int v = 0; v < 4; v++) {
                due("refuted(" + v + ")", x.refuted(v), n);
            }
        }
    }

    /** "the first such, that of VARIABLE 0 going fastest" */
    private static void fastest() {
        for (int n = 1; n <= 3; n++) {
            for (int at = 0; at < (n + 1) * (n + 1); at++) {
                RewriteChecks x = withTables(n);
                x.rule(x.term(2, x.variable(0), x.variable(1)), 0);
                // Differing at this place, and at all that are to be tried behind it.
                for (int k = at; k < (n + 1) * (n + 1); k++) {
                    x.cell(2, k % (n + 1), k / (n + 1), 1);
                }
                due("judge(0)", x.judge(0), REFUTED);
                due("VARIABLE 0", x.refuted(0), at % (n + 1));
                due("VARIABLE 1", x.refuted(1), at / (n + 1));
                due("VARIABLE 2", x.refuted(2), 0);
            }
        }
    }

    /** "VARIABLES that are not in LEFT having 0" */
    private static void notInLeft() {
        for (int v = 0; v < 4; v++) {
            RewriteChecks x = withTables(3);
            x.rule(x.term(1, x.variable(v), 0), 0);
            for (int other = 0; other < 8; other++) {
                x.has(other, 2);
            }
            x.cell(1, 3, 0, 1);
            due("judge(0)", x.judge(0), REFUTED);
            for (int w = 0; w < 4; w++) {
                due("refuted(" + w + ") of VARIABLE " + v, x.refuted(w), w == v ? 3 : 0);
            }
        }
    }

    /** The same, of a LEFT with no VARIABLES. */
    private static void noVariables() {
        RewriteChecks x = withTables(2);
        x.rule(0, 1);
        due("the same VALUE", x.judge(0), TRIED);
        x.cell(3, 0, 0, 2);
        due("another VALUE", x.judge(0), REFUTED);
        for (int v = 0; v < 4; v++) {
            due("refuted(" + v + ")", x.refuted(v), 0);
        }
        x.cell(0, 0, 0, 2);
        due("both OPEN are the same", x.judge(0), TRIED);
    }

    /** What VARIABLES have by has() is not asked, and stays. */
    private static void hasIsNotAsked() {
        RewriteChecks x = withTables(2);
        int v = x.variable(0);
        int g = x.term(1, v, 0);
        x.rule(g, v);
        x.has(0, 1);
        x.cell(1, 1, 0, 1);
        x.cell(1, 2, 0, 1);
        due("judge(0)", x.judge(0), REFUTED);
        due("refuted(0)", x.refuted(0), 2);
        due("value(v)", x.value(v), 1);
        due("has(0, 0)", x.has(0, 0), 1);
        x.cell(1, 2, 0, 2);
        due("judge(0)", x.judge(0), TRIED);
    }

    // Of tight(): RULES.
    private static final int LEFT_GROWS = 2, RIGHT_GROWS = 3, C_TO_C = 5, WAS_REFUTED = 6;

    /**
     * As many TERMS as are asked for; 4 is d -> e. LEFT of RULE 2, g(d) -> c, and RIGHT of RULE 3,
     * f(c, c) -> g(d), become g(e), which is not there. RULES 5, c -> c, and 6, by whose judge()
     * refuted() tells something, are OFF; so is one of 2 and 3.
     */
    private static RewriteChecks tight(int terms, int judged) {
        RewriteChecks x = small();
        x.sign(0, 1);
        x.sign(1, 1);
        int e = x.term(4, 0, 0);
        int v = x.variable(0);
        int gd = x.term(1, 1, 0);
        int fcc = x.term(2, 0, 0);
        int hv = x.term(5, v, 0);
        Fill.to(x, 0, 5, terms);
        x.rule(gd, 0);
        x.rule(fcc, gd);
        x.rule(1, e);
        x.rule(0, 0);
        x.rule(hv, 0);
        x.on(C_TO_C, false);
        x.on(WAS_REFUTED, false);
        x.on(judged == LEFT_GROWS ? RIGHT_GROWS : LEFT_GROWS, false);
        x.tables(2);
        x.cell(5, 1, 0, 2);
        due("judge of what is refuted", x.judge(WAS_REFUTED), REFUTED);
        return x;
    }

    /** "Of two NORMALS that are compared the second one is asked when the first one is not OPEN." */
    private static void judgeOpen() {
        RewriteChecks x = tight(120, RIGHT_GROWS);
        x.on(C_TO_C, true);
        due("LEFT is OPEN", x.judge(RIGHT_GROWS), TRIED);
        due("g(e) is not made", x.count(1), 120);
        RewriteChecks y = tight(1000, RIGHT_GROWS);
        y.on(C_TO_C, true);
        due("LEFT is OPEN, RIGHT would be FULL", y.judge(RIGHT_GROWS), TRIED);
        due("refuted(0)", y.refuted(0), NONE);
        RewriteChecks z = tight(120, LEFT_GROWS);
        z.on(C_TO_C, true);
        due("RIGHT is OPEN", z.judge(LEFT_GROWS), TRIED);
        due("g(e) is made", z.count(1), 121);
    }

    /** "TERMS that are made by a call that is not refused stay." */
    private static void judgeTermsStay() {
        for (int rule = LEFT_GROWS; rule <= RIGHT_GROWS; rule++) {
            RewriteChecks x = tight(120, rule);
            due("judge", x.judge(rule), TRIED);
            due("count(1)", x.count(1), 121);
            due("g(e)", x.of(120, 0, 0), 1);
            due("judge", x.judge(rule), TRIED);
            due("count(1)", x.count(1), 121);
        }
    }

    /** "judge: FULL"; "1000 at most" */
    private static void lastTermOfJudge() {
        for (int rule = LEFT_GROWS; rule <= RIGHT_GROWS; rule++) {
            RewriteChecks x = tight(999, rule);
            due("the last TERM", x.judge(rule), TRIED);
            due("count(1)", x.count(1), 1000);
            RewriteChecks y = tight(1000, rule);
            due("one more", y.judge(rule), FULL);
            due("BAD, full", y.judge(7), BAD);
            due("one that makes none", y.judge(WAS_REFUTED), REFUTED);
        }
    }

    /** "FULL: then nothing changes, also no TERM is made": nor what refuted(), used() tell */
    private static void refusedJudges() {
        for (int rule = LEFT_GROWS; rule <= RIGHT_GROWS; rule++) {
            int judged = rule;
            Refusal refused = new Refusal(CHECK, () -> tight(1000, judged));
            refused.due("judge(" + judged + ")", x -> x.judge(judged), FULL);
            refused.due("judge(-1)", x -> x.judge(-1), BAD);
            refused.due("judge(7)", x -> x.judge(7), BAD);
            RewriteChecks x = tight(1000, judged);
            due("refuted(0)", x.refuted(0), 1);
            due("judge(" + judged + ")", x.judge(judged), FULL);
            due("refuted(0)", x.refuted(0), 1);
        }
    }

    /** "VALUE of a VARIABLE (0 to 3) ..; NONE: it did not. BAD." */
    private static void refutedBounds() {
        RewriteChecks x = withTables(2);
        for (int round = 0; round < 2; round++) {
            for (int wrong : new int[] {LEAST, -1, 4, 5, 7, 8, MOST}) {
                due("refuted(" + wrong + ")", x.refuted(wrong), BAD);
            }
            for (int v = 0; v < 4; v++) {
                due("refuted(" + v + ")", x.refuted(v), round == 0 ? NONE : v == 3 ? 2 : 0);
            }
            x.rule(x.term(1, x.variable(3), 0), 0);
            x.cell(1, 2, 0, 1);
            due("judge(0)", x.judge(round), round == 0 ? REFUTED : PROVED);
        }
        Refusal busy = new Refusal(CHECK, () -> Busy.of(120));
        busy.due("refuted(4)", y -> y.refuted(4), BAD);
        busy.due("refuted(-1)", y -> y.refuted(-1), BAD);
    }

    /** "at which the latest judge() REFUTED": each kind of answer behind it, and other calls */
    private static void refutedOfTheLatest() {
        RewriteChecks x = withTables(1);
        int v = x.variable(2);
        x.rule(x.term(1, v, 0), v);
        x.rule(1, 1);
        x.rule(1, 0);
        due("REFUTED", x.judge(0), REFUTED);
        due("refuted(2)", x.refuted(2), 1);
        x.cell(1, 1, 0, 1);
        x.has(2, 1);
        x.value(v);
        x.pairs();
        x.normal(1, 0);
        x.on(0, false);
        x.tables(3);
        due("refuted(2) stays", x.refuted(2), 1);
        due("PROVED", x.judge(1), PROVED);
        due("refuted(2)", x.refuted(2), NONE);
        x.on(0, true);
        x.judge(0);
        due("refuted(2)", x.refuted(2), 1);
        x.on(1, false);
        due("TRIED", x.judge(2), TRIED);
        due("refuted(2)", x.refuted(2), NONE);
        x.judge(0);
        due("refuted(2)", x.refuted(2), 1);
        x.clear();
        due("refuted(2) behind clear()", x.refuted(2), NONE);
    }
}
