import java.util.Random;

/** Random RULES over few SIGNS and many VARIABLES, all their PAIRS compared with the model's. */
public final class PairsModelTest {
    private static final int RUNS = 4000;
    private static final int[][][] SIGNS = {
        {{2, 1}, {0, 1}}, {{2, 1}, {1, 1}}, {{2, 1}, {2, 2}, {1, 1}, {0, 1}}
    };

    private final Check check;
    private final int run;
    private final Random random;
    private final RewriteChecks x = new RewriteChecks();
    private final Model model = new Model();

    private PairsModelTest(int run, Check check) {
        this.run = run;
        this.check = check;
        random = new Random(run);
    }

    public static void main(String[] args) {
        Check check = new Check();
        int cut = 0;
        for (int run = 0; run < RUNS && check.wrong() == 0; run++) {
            try {
                new PairsModelTest(run, check).go();
            } catch (Model.TooLarge e) {
                cut++;
            }
        }
        System.out.println(RUNS + " runs, " + cut + " of them cut short as too large for the model");
        check.finish();
    }

    private void due(String call, long got, long want) {
        check.due("run " + run + ": " + call, got, want);
    }

    private int someTerm() {
        return random.nextInt((int) model.count(1));
    }

    private void go() {
        int[][] signs = SIGNS[random.nextInt(SIGNS.length)];
        for (int[] s : signs) {
            due("sign", x.sign(s[0], s[1]), model.sign(s[0], s[1]));
        }
        int variables = 2 + random.nextInt(3);
        for (int v = 0; v < variables; v++) {
            due("variable", x.variable(v), model.variable(v));
        }
        for (int k = 0; k < 12; k++) {
            int sign = random.nextInt(signs.length);
            int a = someTerm();
            int b = someTerm();
            due("term", x.term(sign, a, b), model.term(sign, a, b));
        }
        for (int k = 0; k < 6; k++) {
            int left = someTerm();
            int right = someTerm();
            due("rule", x.rule(left, right), model.rule(left, right));
        }
        comparePairs();
    }

    private void comparePairs() {
        due("pairs()", x.pairs(), model.pairs());
        due("count(1)", x.count(1), model.count(1));
        for (int k = 0; k < model.count(3); k++) {
            for (int what = 0; what < 6; what++) {
                due("pair(" + k + ", " + what + ")", x.pair(k, what), model.pair(k, what));
            }
        }
    }
}
