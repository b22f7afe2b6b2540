/** Benches in states where a call may be refused; the symbols are those of Terms. */
final class Benches {
    /** The heaviest term, so that there is one that nothing more can come to. */
    static final int HEAVIEST = 7;
    static final int ITS_WEIGHT = 100;
    /** The numbers of Terms' symbols are 0 .. 6. */
    static final int SYMBOLS = 7;

    private Benches() {
    }

    /** Some slots have terms, something was rewritten, a match gave values to variables 0 and 2. */
    static TermBench withAnEmptyRow() {
        TermBench bench = Terms.bench();
        Terms.keep(bench, 0, "g(x, f(z))");
        Terms.keep(bench, 1, "g(g(z, y), f(b))");
        Terms.keep(bench, 2, "f(f(a))");
        Terms.keep(bench, 3, "f(x)");
        Terms.keep(bench, HEAVIEST, "f^99(a)");
        Terms.keep(bench, 15, "p(w)");
        Check.due("rewrite", bench.rewrite(5, 2, 3, 6), 2);
        Check.due("match", bench.match(0, 1), true);
        return bench;
    }

    /** The row is g(y, and lacks one term. */
    static TermBench withHalfARow() {
        TermBench bench = withAnEmptyRow();
        bench.put(3);
        Check.due("put(-2)", bench.put(-2), 1);
        return bench;
    }

    /** The row is g(y, b). */
    static TermBench withAWholeRow() {
        TermBench bench = withHalfARow();
        Check.due("put(1)", bench.put(1), 0);
        return bench;
    }

    /** The row has 99 codes and lacks one term. */
    static TermBench withOneCodeOfRoom() {
        TermBench bench = withAnEmptyRow();
        for (int i = 0; i < 99; i++) {
            Check.due("put(2)", bench.put(2), 1);
        }
        return bench;
    }

    static TermBench withFortySymbols() {
        TermBench bench = withHalfARow();
        for (int number = SYMBOLS; number < 40; number++) {
            Check.due("symbol", bench.symbol(0, number % 2 == 0), number);
        }
        return bench;
    }
}
