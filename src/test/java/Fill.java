/** Fills objects with TERMS by some 40 calls: a TERM c nested ever deeper in a SIGN u. */
final class Fill {
    private Fill() {
    }

    /**
     * Makes TERMS until there are so many, 100 at least. No RULE may be ON; the two RULES that are
     * added for it are OFF behind it.
     */
    static void to(RewriteChecks x, int c, int u, int many) {
        int last = x.term(u, c, 0);
        int byOne = x.rule(c, last);
        int first = x.count(1);
        int there = first;
        while (many - there >= 100) {
            x.normal(last, 0);
            there += 100;
            last = there - 1;
        }
        x.on(byOne, false);
        int tenfold = first + 8;
        int byTen = x.rule(c, tenfold);
        while (many - there >= 10) {
            last = x.step(last, 0);
            there += 10;
        }
        x.on(byTen, false);
        x.on(byOne, true);
        while (there < many) {
            last = x.step(last, 0);
            there++;
        }
        x.on(byOne, false);
    }
}
