/** symbol: numbers from 0 on, 0 to 5 terms, at most 40. */
public final class Promise02SymbolTest {
    public static void main(String[] args) {
        numbersAndTerms();
        wrongTerms();
        atMostForty();
        fortyOfEachKind();
        whileARowIsPutTogether();
        Check.end();
    }

    private static void numbersAndTerms() {
        TermBench bench = new TermBench();
        for (int terms = 0; terms <= 5; terms++) {
            Check.due("function", bench.symbol(terms, false), 2 * terms);
            Check.due("predicate", bench.symbol(terms, true), 2 * terms + 1);
        }
        for (int number = 0; number < 12; number++) {
            int terms = number / 2;
            Check.due("put(" + number + ")", bench.put(number), terms);
            for (int i = 1; i <= terms; i++) {
                Check.due("put(-1)", bench.put(-1), terms - i);
            }
            Check.due("keep", bench.keep(0), terms + 1);
        }
    }

    private static void wrongTerms() {
        TermBench bench = Check.benchWith(1);
        for (int terms : new int[] {-1, 6, 7, 100, Integer.MIN_VALUE, Integer.MAX_VALUE}) {
            Check.dueThrow("symbol(" + terms + ")", Check.ARGUMENT, () -> bench.symbol(terms, false));
            Check.dueThrow("symbol(" + terms + ")", Check.ARGUMENT, () -> bench.symbol(terms, true));
        }
        Check.due("count(0)", bench.count(0), 1);
        Check.due("the next", bench.symbol(5, false), 1);
    }

    /** Functions and predicates are counted together, whatever terms they have. */
    private static void fortyOfEachKind() {
        for (int kind = 0; kind < 12; kind++) {
            int terms = kind / 2;
            boolean predicate = kind % 2 == 1;
            TermBench bench = new TermBench();
            for (int number = 0; number < 40; number++) {
                Check.due("symbol", bench.symbol(terms, predicate), number);
            }
            Check.dueThrow("a 41st of its kind", Check.STATE, () -> bench.symbol(terms, predicate));
            Check.dueThrow("a 41st of another", Check.STATE, () -> bench.symbol(5 - terms, !predicate));
            Check.due("count(0)", bench.count(0), 40);
            Check.due("put(39)", bench.put(39), terms);
        }
    }

    private static void whileARowIsPutTogether() {
        TermBench bench = Check.benchWith(2);
        bench.put(0);
        Check.dueThrow("not yet there", Check.NO_SUCH, () -> bench.put(1));
        Check.due("symbol", bench.symbol(1, true), 1);
        Check.due("put(1)", bench.put(1), 2);
        bench.put(-1);
        Check.due("symbol", bench.symbol(0, false), 2);
        Check.due("put(2)", bench.put(2), 0);
        Check.due("symbol", bench.symbol(5, false), 3);
        Check.due("keep", bench.keep(0), 4);
        Check.dueTerm("kept", bench, 0, 0, 1, -1, 2);
    }

    private static void atMostForty() {
        TermBench bench = new TermBench();
        for (int number = 0; number < 40; number++) {
            Check.due("symbol", bench.symbol(0, number % 2 == 0), number);
        }
        Check.dueThrow("a 41st", Check.STATE, () -> bench.symbol(0, false));
        Check.dueThrow("a 41st with wrong terms", Check.ARGUMENT, () -> bench.symbol(6, false));
        Check.due("count(0)", bench.count(0), 40);
        Check.due("put(39)", bench.put(39), 0);
        bench.keep(0);
        Check.dueThrow("put(40)", Check.NO_SUCH, () -> bench.put(40));
    }
}
