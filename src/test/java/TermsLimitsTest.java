/** Section 'Terms': symbols, variables, codes, weights, places, slots and THE ROW at their limits. */
public final class TermsLimitsTest {
    public static void main(String[] args) {
        fortySymbolsNumberedFromZero();
        functionsAndPredicatesOfZeroToFiveTerms();
        variablesZeroToFive();
        variableFiveHasAllThatVariableZeroHas();
        codesInARow();
        weightOfOne();
        weightOfAHundred();
        weightAboveAHundred();
        aTermBeginsAtEachPlace();
        slotsAreVariableZeroAtFirst();
        slotsZeroAndFifteenInEveryCall();
        eachSlotHasATermOfItsOwn();
        theRowIsEmptyAtFirst();
        Check.end();
    }

    /** "SYMBOLS, at most 40, numbered from 0 ..." The last of them is as good as the first. */
    private static void fortySymbolsNumberedFromZero() {
        TermBench bench = new TermBench();
        for (int number = 0; number < 39; number++) {
            Check.due("symbol", bench.symbol(0, false), number);
        }
        Check.due("the fortieth", bench.symbol(5, false), 39);
        Check.due("symbols", bench.count(0), 40);
        Check.dueThrow("the one after it", Check.STATE, () -> bench.symbol(5, false));
        Check.due("put(39)", bench.put(39), 5);
        for (int i = 0; i < 5; i++) {
            Check.due("put(38)", bench.put(38), 4 - i);
        }
        Check.due("keep", bench.keep(0), 6);
        Check.dueTerm("the fortieth with its terms", bench, 0, 39, 38, 38, 38, 38, 38);
        Check.keep(bench, 1, 39, 37, 38, 38, 38, 38);
        Check.due("order", bench.order(0, 1), 1);
        Check.dueThrow("put(40)", Check.NO_SUCH, () -> bench.put(40));
    }

    /** "... are FUNCTIONS or PREDICATES with 0 to 5 TERMS." */
    private static void functionsAndPredicatesOfZeroToFiveTerms() {
        for (int terms = 0; terms <= 5; terms++) {
            TermBench bench = new TermBench();
            int function = bench.symbol(terms, false);
            int predicate = bench.symbol(terms, true);
            keepWithVariables(bench, 1, function, terms);
            keepWithVariables(bench, 2, predicate, terms);
            Check.due("a function is a value", bench.match(0, 1), true);
            Check.due("a predicate is none", bench.match(0, 2), false);
            Check.due("a function is a value", bench.unify(3, 0, 1, true), 1);
            Check.due("a predicate is none", bench.unify(3, 0, 2, true), 0);
        }
        Check.dueThrow("-1 terms", Check.ARGUMENT, () -> new TermBench().symbol(-1, false));
        Check.dueThrow("6 terms", Check.ARGUMENT, () -> new TermBench().symbol(6, true));
    }

    private static void keepWithVariables(TermBench bench, int slot, int symbol, int terms) {
        int[] codes = new int[terms + 1];
        codes[0] = symbol;
        for (int i = 1; i <= terms; i++) {
            codes[i] = -i;
        }
        Check.keep(bench, slot, codes);
    }

    /** "VARIABLES 0 .. 5." and "of a VARIABLE v -1 - v" */
    private static void variablesZeroToFive() {
        for (int variable = 0; variable <= 5; variable++) {
            TermBench bench = new TermBench();
            Check.due("put", bench.put(-1 - variable), 0);
            Check.due("keep", bench.keep(3), 1);
            Check.due("code", bench.code(3, 0), -1 - variable);
            Check.due("order to variable 0", bench.order(3, 0), variable == 0 ? 3 : 0);
            Check.due("match", bench.match(3, 0), true);
            Check.due("bound", bench.bound(4, variable), 1);
        }
        TermBench bench = new TermBench();
        Check.dueThrow("variable 6", Check.NO_SUCH, () -> bench.put(-7));
        Check.due("match", bench.match(0, 0), true);
        Check.dueThrow("variable -1", Check.NO_SUCH, () -> bench.bound(0, -1));
        Check.dueThrow("variable 6", Check.NO_SUCH, () -> bench.bound(0, 6));
    }

    private static void variableFiveHasAllThatVariableZeroHas() {
        TermBench bench = Terms.bench();
        Terms.keep(bench, 1, "f(w)");
        Terms.keep(bench, 2, "w");
        Terms.keep(bench, 3, "f(f(b))");
        Check.due("order", bench.order(1, 2), 1);
        Check.due("match", bench.match(1, 3), true);
        Check.due("bound", bench.bound(4, 5), 2);
        Terms.due("bound", bench, 4, "f(b)");
        Check.due("unify", bench.unify(4, 1, 2, false), 0);
        Check.due("unify", bench.unify(4, 1, 2, true), 1);
        Terms.due("unify", bench, 4, "f(x)");
        Check.due("rewrite", bench.rewrite(4, 3, 1, 2), 2);
        Terms.due("rewrite", bench, 4, "b");
        Check.due("told", bench.told(1, 1), 1);
    }

    /** "its CODES, in a row: ... of a SYMBOL its number, then those of its TERMS, one behind the other." */
    private static void codesInARow() {
        TermBench bench = Terms.bench();
        Terms.keep(bench, 0, "k(a, g(b, w), f(f(x)), p(z), h(u, v))");
        Check.dueTerm("its codes", bench, 0, 5, 0, 3, 1, -6, 2, 2, -1, 6, -3, 4, -4, -5);
    }

    /** "WEIGHT: how many CODES ..." No term is lighter than one code. */
    private static void weightOfOne() {
        TermBench bench = Terms.bench();
        Terms.keep(bench, 0, "a");
        Check.due("a constant", bench.told(0, 0), 1);
        Check.due("a variable", bench.told(1, 0), 1);
        Check.due("order", bench.order(0, 0), 3);
        Check.due("match", bench.match(1, 0), true);
        Check.due("bound", bench.bound(2, 0), 1);
        Check.due("replace", bench.replace(3, 0, 0, 1), 1);
        Terms.due("replace", bench, 3, "x");
        Check.due("unify", bench.unify(4, 3, 0, true), 1);
        Terms.due("unify", bench, 4, "a");
        Terms.keep(bench, 5, "b");
        Check.due("rewrite", bench.rewrite(6, 5, 5, 0), 1);
        Terms.due("rewrite", bench, 6, "a");
    }

    /** "... at most 100." A term of 100 codes is whole for every call. */
    private static void weightOfAHundred() {
        heaviestTerm("f^99(x)", "f^98(x)");
        heaviestTerm("g(f^48(x), f^49(x))", "f^50(x)");
        heaviestTerm(wide("x"), "k(x, x, x, x, x)");
    }

    private static String wide(String leaf) {
        String six = "k(" + String.join(",", leaf, leaf, leaf, leaf, leaf) + ")";
        String sixteen = "k(" + String.join(",", six, six, leaf, leaf, leaf) + ")";
        String thirty = "k(" + String.join(",", six, six, six, six, "f^4(" + leaf + ")") + ")";
        return "f^5(k(" + String.join(",", sixteen, sixteen, sixteen, sixteen, thirty) + "))";
    }

    private static void heaviestTerm(String text, String lighter) {
        TermBench bench = Terms.bench();
        int[] codes = Terms.codes(text);
        Check.due("the test's own term", codes.length, 100);
        Terms.keep(bench, 0, text);
        Terms.keep(bench, 15, lighter);
        Check.due("weight", bench.told(0, 0), 100);
        Check.due("its last code", bench.code(0, 99), codes[99]);
        Check.due("order to itself", bench.order(0, 0), 3);
        Check.due("order to a lighter one", bench.order(0, 15), 1);
        Check.due("unify", bench.unify(1, 0, 0, true), 1);
        Check.due("unify", bench.unify(1, 1, 5, true), 1);
        Check.due("match", bench.match(5, 1), true);
        Check.due("bound", bench.bound(2, 0), 100);
        Check.due("replace", bench.replace(3, 5, 0, 2), 100);
        Check.due("replace", bench.replace(3, 3, 99, 5), 100);
        Check.due("rewrite", bench.rewrite(4, 3, 15, 15), 0);
        Check.dueTerm("all are the same still", bench, 4, codes);
    }

    /** "... at most 100." What would have 101 is refused, or not there. */
    private static void weightAboveAHundred() {
        TermBench bench = Terms.bench();
        for (int i = 0; i < 99; i++) {
            bench.put(2);
        }
        Check.dueThrow("put", Check.STATE, () -> bench.put(2));
        Check.due("put", bench.put(-1), 0);
        Check.due("keep", bench.keep(0), 100);
        Terms.keep(bench, 2, "f(x)");
        Check.dueThrow("replace", Check.STATE, () -> bench.replace(3, 2, 1, 0));
        Check.dueThrow("replace", Check.STATE, () -> bench.replace(3, 0, 99, 2));
        Terms.keep(bench, 4, "g(x, f(x))");
        Terms.keep(bench, 5, "g(f^48(a), y)");
        Terms.keep(bench, 6, "g(f^49(a), y)");
        Check.due("unify to 1 + 49 + 50", bench.unify(7, 4, 5, true), 1);
        Check.due("its weight", bench.told(7, 0), 100);
        Check.due("unify to 1 + 50 + 51", bench.unify(7, 4, 6, true), -1);
        Check.due("to stays", bench.told(7, 0), 100);
        Terms.due("never written to", bench, 3, "x");
    }

    /** "PLACES in a TERM: the CODES from 0 on; at each a TERM begins." */
    private static void aTermBeginsAtEachPlace() {
        String[] with = {
            "w", "k(w, f(x), g(y, p(z)), u, f(v))", "k(a, w, g(y, p(z)), u, f(v))", "k(a, f(w), g(y, p(z)), u, f(v))",
            "k(a, f(x), w, u, f(v))", "k(a, f(x), g(w, p(z)), u, f(v))", "k(a, f(x), g(y, w), u, f(v))",
            "k(a, f(x), g(y, p(w)), u, f(v))", "k(a, f(x), g(y, p(z)), w, f(v))", "k(a, f(x), g(y, p(z)), u, w)",
            "k(a, f(x), g(y, p(z)), u, f(w))",
        };
        TermBench bench = Terms.bench();
        Terms.keep(bench, 0, "k(a, f(x), g(y, p(z)), u, f(v))");
        Terms.keep(bench, 1, "w");
        for (int place = 0; place < with.length; place++) {
            Check.due("replace", bench.replace(2, 0, place, 1), Terms.codes(with[place]).length);
            Terms.due("w at place " + place, bench, 2, with[place]);
        }
        Check.dueThrow("place -1", Check.NO_SUCH, () -> bench.replace(2, 0, -1, 1));
        Check.dueThrow("place 11", Check.NO_SUCH, () -> bench.replace(2, 0, 11, 1));
        Check.dueThrow("place -1", Check.NO_SUCH, () -> bench.code(0, -1));
        Check.dueThrow("place 11", Check.NO_SUCH, () -> bench.code(0, 11));
    }

    /** "SLOTS 0 .. 15 have a TERM each, VARIABLE 0 at first." */
    private static void slotsAreVariableZeroAtFirst() {
        TermBench bench = new TermBench();
        for (int slot = 0; slot <= 15; slot++) {
            Check.due("weight", bench.told(slot, 0), 1);
            Check.due("variables", bench.told(slot, 1), 1);
            Check.due("depth", bench.told(slot, 2), 1);
            Check.due("its code", bench.code(slot, 0), -1);
            Check.due("order", bench.order(slot, 15 - slot), 3);
        }
        Check.dueThrow("slot -1", Check.NO_SUCH, () -> bench.told(-1, 0));
        Check.dueThrow("slot 16", Check.NO_SUCH, () -> bench.told(16, 0));
    }

    private static void slotsZeroAndFifteenInEveryCall() {
        for (int slot : new int[] {0, 15}) {
            TermBench bench = Terms.bench();
            Terms.keep(bench, 5, "f(b)");
            Terms.keep(bench, slot, "f(x)");
            Check.due("order", bench.order(slot, 5), 0);
            Check.due("order", bench.order(slot, 6), 1);
            Check.due("order", bench.order(6, slot), 2);
            Check.due("match", bench.match(slot, 5), true);
            Check.due("match", bench.match(5, slot), false);
            Check.due("unify", bench.unify(7, slot, 5, true), 1);
            Terms.due("unify", bench, 7, "f(b)");
            Check.due("unify", bench.unify(8, 5, slot, false), 1);
            Terms.due("unify", bench, 8, "f(b)");
            Check.due("replace", bench.replace(7, slot, 1, 5), 3);
            Terms.due("replace", bench, 7, "f(f(b))");
            Check.due("replace", bench.replace(8, 5, 1, slot), 3);
            Terms.due("replace", bench, 8, "f(f(x))");
            Check.due("rewrite", bench.rewrite(9, slot, 10, 10), 0);
            Terms.due("rewrite", bench, 9, "f(x)");
            Check.due("rewrite", bench.rewrite(9, 7, slot, 10), 2);
            Terms.due("rewrite", bench, 9, "b");
            Check.due("rewrite", bench.rewrite(9, 8, 8, slot), 1);
            Terms.due("rewrite", bench, 9, "f(x)");
            Check.due("bound", bench.bound(slot, 0), 1);
            Terms.due("bound", bench, slot, "b");
            Check.due("unify", bench.unify(slot, 5, 7, true), 0);
            Check.due("unify", bench.unify(slot, 5, 10, true), 1);
            Terms.due("unify", bench, slot, "f(b)");
            Check.due("replace", bench.replace(slot, 7, 1, 10), 2);
            Terms.due("replace", bench, slot, "f(x)");
            Check.due("rewrite", bench.rewrite(slot, 7, 11, 12), 0);
            Terms.due("rewrite", bench, slot, "f(f(b))");
        }
    }

    private static void eachSlotHasATermOfItsOwn() {
        TermBench bench = Check.benchWith(1);
        for (int slot = 0; slot < 16; slot++) {
            Check.keep(bench, slot, Check.chain(slot, 0, -1));
        }
        for (int slot = 0; slot < 16; slot++) {
            Check.dueTerm("slot " + slot, bench, slot, Check.chain(slot, 0, -1));
        }
    }

    /** "THE ROW: CODES of a TERM that is put together, none at first." */
    private static void theRowIsEmptyAtFirst() {
        TermBench bench = new TermBench();
        Check.due("codes", bench.count(1), 0);
        Check.due("lacking", bench.count(2), 1);
        Check.dueThrow("keep", Check.STATE, () -> bench.keep(0));
        int[] codes = Check.chain(99, bench.symbol(1, false), -6);
        Check.keep(bench, 0, codes);
        Check.dueTerm("a hundred codes had room", bench, 0, codes);
    }
}
