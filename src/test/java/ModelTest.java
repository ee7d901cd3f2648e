import java.util.Arrays;
import java.util.Map;
import java.util.Random;
import java.util.TreeMap;

/** Random runs of calls, each answer compared with the model's; the seeds are fixed. */
public final class ModelTest {
    private static final int RUNS = 1500;
    private static final int CALLS = 450;
    private static final int THROWN = 1_000_000;
    private static final int NONE = RewriteChecks.NONE;

    // How often each call gave each kind of answer: a look at what the runs reach.
    private static final Map<String, Integer> REACHED = new TreeMap<>();

    private final Random random;
    private final RewriteChecks x = new RewriteChecks();
    private final Model model = new Model();
    private final Check check;
    private final int run;
    private int callNumber;

    private ModelTest(int run, Check check) {
        this.run = run;
        this.check = check;
        random = new Random(run);
    }

    public static void main(String[] args) {
        Check check = new Check();
        int runs = args.length > 0 ? Integer.parseInt(args[0]) : RUNS;
        int cut = 0;
        for (int run = 0; run < runs && check.wrong() == 0; run++) {
            try {
                new ModelTest(run, check).go();
            } catch (Model.TooLarge e) {
                cut++;
            }
        }
        System.out.println(runs + " runs, " + cut + " of them cut short as too large for the model");
        if (args.length > 0) {
            System.out.println(REACHED);
        }
        check.finish();
    }

    private void due(String call, long got, long want, int... with) {
        callNumber++;
        String name = "run " + run + ", call " + callNumber + ": " + call + Arrays.toString(with);
        check.due(name, got, want);
        REACHED.merge(call + (got < 3 ? " " + got : " more"), 1, Integer::sum);
    }

    /** Mostly numbers that are there, now and then one that is not. */
    private int upTo(long end) {
        if (random.nextInt(40) == 0) {
            int[] odd = {-1, -2, (int) end, (int) end + 1, Integer.MAX_VALUE, Integer.MIN_VALUE};
            return odd[random.nextInt(odd.length)];
        }
        return end <= 0 ? 0 : random.nextInt((int) end);
    }

    private int someTerm() {
        long all = model.count(1);
        return random.nextInt(4) > 0 ? upTo(Math.min(all, 25)) : upTo(all);
    }

    private int someRule() {
        return upTo(model.count(2));
    }

    private int someValue() {
        return upTo(model.count(4) + 1);
    }

    private void go() {
        begin();
        while (callNumber < CALLS) {
            call(random.nextInt(50));
            due("count", x.count(1), model.count(1), 1);
        }
    }

    private void begin() {
        int[][] shapes = {{0, 1}, {1, 1}, {2, 2}, {0, 3}, {1, 9}, {2, 1}};
        int signs = 3 + random.nextInt(4);
        for (int k = 0; k < signs; k++) {
            int[] shape = shapes[random.nextInt(4) == 0 ? random.nextInt(6) : k % 6];
            int weight = random.nextInt(3) == 0 ? 1 + random.nextInt(9) : shape[1];
            due("sign", x.sign(shape[0], weight), model.sign(shape[0], weight), shape[0], weight);
        }
        int variables = 1 + random.nextInt(4);
        for (int v = 0; v < variables; v++) {
            due("variable", x.variable(v), model.variable(v), v);
        }
        for (int k = 0; k < 20; k++) {
            makeTerm();
        }
        int rules = random.nextInt(12);
        for (int k = 0; k < rules; k++) {
            makeRule();
        }
    }

    private void makeTerm() {
        int sign = upTo(model.count(0));
        int a = someTerm();
        int b = someTerm();
        due("term", x.term(sign, a, b), model.term(sign, a, b), sign, a, b);
    }

    private void makeRule() {
        int left = someTerm();
        int right = someTerm();
        due("rule", x.rule(left, right), model.rule(left, right), left, right);
    }

    private void call(int kind) {
        if (kind < 5) {
            makeTerm();
        } else if (kind < 8) {
            makeRule();
        } else if (kind < 16) {
            callSteps(kind);
        } else if (kind < 26) {
            callPairs(kind);
        } else if (kind < 34) {
            callTables(kind);
        } else if (kind < 42) {
            callJudge(kind);
        } else {
            callRest(kind);
        }
    }

    private void callSteps(int kind) {
        int term = someTerm();
        int way = upTo(2);
        int k = random.nextInt(5) == 0 ? upTo(model.used(NONE, 0)) : random.nextInt(4) - 1;
        if (kind < 10) {
            due("normal", x.normal(term, way), model.normal(term, way), term, way);
        } else if (kind < 12) {
            due("step", x.step(term, way), model.step(term, way), term, way);
        } else {
            due("used", x.used(k, way), model.used(k, way), k, way);
            due("used", x.used(NONE, 0), model.used(NONE, 0), NONE, 0);
        }
    }

    private void callPairs(int kind) {
        int rule = someRule();
        int s = someTerm();
        int t = someTerm();
        boolean is = random.nextInt(3) > 0;
        int k = upTo(model.count(3));
        int what = random.nextInt(4) == 0 ? 5 : upTo(6);
        if (kind < 17) {
            due("on", x.on(rule, is), model.on(rule, is), rule, is ? 1 : 0);
        } else if (kind < 19) {
            due("ends", x.ends(rule), model.ends(rule), rule);
        } else if (kind < 21) {
            due("above", x.above(s, t), model.above(s, t), s, t);
        } else if (kind < 22) {
            due("pairs", x.pairs(), model.pairs());
        } else {
            due("pair", x.pair(k, what), model.pair(k, what), k, what);
        }
    }

    private void callTables(int kind) {
        int n = random.nextInt(10) == 0 ? upTo(6) : 1 + random.nextInt(3);
        int sign = upTo(model.count(0));
        int a = someValue();
        int b = someValue();
        int v = someValue();
        int variable = upTo(8);
        if (kind < 27 && (model.count(4) == 0 || random.nextInt(4) == 0)) {
            due("tables", x.tables(n), model.tables(n), n);
        } else if (kind < 32) {
            due("cell", x.cell(sign, a, b, v), model.cell(sign, a, b, v), sign, a, b, v);
        } else {
            due("has", x.has(variable, v), model.has(variable, v), variable, v);
        }
    }

    private void callJudge(int kind) {
        int rule = someRule();
        int variable = upTo(4);
        int term = someTerm();
        if (kind < 37) {
            due("judge", x.judge(rule), model.judge(rule), rule);
        } else if (kind < 39) {
            due("refuted", x.refuted(variable), model.refuted(variable), variable);
        } else {
            due("value", x.value(term), model.value(term), term);
        }
    }

    private void callRest(int kind) {
        int term = someTerm();
        int what = upTo(5);
        int i = upTo(8);
        int index = upTo(2);
        if (kind < 45) {
            due("of", x.of(term, what, i), model.of(term, what, i), term, what, i);
        } else if (kind < 47) {
            due("part", partOrThrown(term, index), model.part(term, index), term, index);
        } else if (kind < 48) {
            due("count", x.count(what), model.count(what), what);
        } else if (kind < 49) {
            due("variable", x.variable(i), model.variable(i), i);
        } else if (random.nextInt(30) == 0) {
            due("clear", x.clear(), model.clear());
            begin();
        } else if (random.nextInt(10) == 0) {
            due("sign", x.sign(index, i), model.sign(index, i), index, i);
        }
    }

    private long partOrThrown(int term, int i) {
        try {
            return x.part(term, i);
        } catch (ArrayIndexOutOfBoundsException e) {
            return THROWN;
        }
    }
}
