/** bound: the values of the latest match that was true. */
public final class Promise08BoundTest {
    public static void main(String[] args) {
        valuesOfAMatch();
        variablesThatHaveNone();
        valuesStayWhenSlotsChange();
        onlyATrueMatchCounts();
        whatElseLeavesIt();
        noMatchThatWasTrue();
        aMatchWithoutVariables();
        everyVariable();
        heaviestValue();
        Check.end();
    }

    private static TermBench matched() {
        TermBench bench = Terms.bench();
        Terms.keep(bench, 0, "g(x, f(z))");
        Terms.keep(bench, 1, "g(g(z, y), f(b))");
        Check.due("match", bench.match(0, 1), true);
        return bench;
    }

    private static void dueBound(TermBench bench, int to, int variable, String want) {
        Check.due("bound(" + to + ", " + variable + ")", bench.bound(to, variable), Terms.codes(want).length);
        Terms.due("bound(" + to + ", " + variable + ")", bench, to, want);
    }

    private static void dueUnbound(TermBench bench, int to, int variable) {
        Check.dueThrow("bound(" + to + ", " + variable + ")", Check.NO_SUCH, () -> bench.bound(to, variable));
    }

    private static void valuesOfAMatch() {
        TermBench bench = matched();
        dueBound(bench, 7, 0, "g(z, y)");
        dueBound(bench, 15, 2, "b");
        Check.due("its depth", bench.told(7, 2), 2);
        dueBound(bench, 0, 0, "g(z, y)");
        dueBound(bench, 1, 0, "g(z, y)");
        dueBound(bench, 1, 2, "b");
    }

    private static void variablesThatHaveNone() {
        TermBench bench = matched();
        Terms.keep(bench, 7, "a");
        for (int variable : new int[] {1, 3, 4, 5, 6, -1, Integer.MIN_VALUE, Integer.MAX_VALUE}) {
            dueUnbound(bench, 7, variable);
        }
        for (int slot : new int[] {-1, 16, Integer.MIN_VALUE, Integer.MAX_VALUE}) {
            dueUnbound(bench, slot, 0);
        }
        Terms.due("stays", bench, 7, "a");
        TermBench unmatched = new TermBench();
        for (int variable = 0; variable < 6; variable++) {
            dueUnbound(unmatched, 0, variable);
        }
    }

    private static void valuesStayWhenSlotsChange() {
        TermBench bench = matched();
        Terms.keep(bench, 1, "a");
        Terms.keep(bench, 0, "y");
        dueBound(bench, 1, 0, "g(z, y)");
        dueBound(bench, 1, 2, "b");
    }

    private static void onlyATrueMatchCounts() {
        TermBench bench = matched();
        Terms.keep(bench, 2, "g(x, a)");
        Terms.keep(bench, 3, "g(f(a), b)");
        Check.due("a false match", bench.match(2, 3), false);
        Check.dueThrow("a match without its slot", Check.NO_SUCH, () -> bench.match(2, 16) ? 1 : 0);
        Terms.keep(bench, 4, "f(y)");
        Terms.keep(bench, 5, "f(f(a))");
        Check.due("unify", bench.unify(6, 4, 5, true), 1);
        Terms.keep(bench, 6, "y");
        Check.due("rewrite", bench.rewrite(8, 5, 4, 6), 2);
        dueBound(bench, 7, 0, "g(z, y)");
        dueBound(bench, 7, 2, "b");
        dueUnbound(bench, 7, 1);
        Check.due("a later match", bench.match(4, 5), true);
        dueBound(bench, 7, 1, "f(a)");
        dueUnbound(bench, 7, 0);
        dueUnbound(bench, 7, 2);
    }

    /** "match() alone counts": whatever the other calls answer, and where they are refused. */
    private static void whatElseLeavesIt() {
        TermBench bench = matched();
        Terms.keep(bench, 2, "g(x, y)");
        Terms.keep(bench, 3, "f(x)");
        Terms.keep(bench, 4, "g(z, f^49(a))");
        Terms.keep(bench, 5, "g(x, x)");
        Check.due("unify to none", bench.unify(6, 2, 3, true), 0);
        dueLeft(bench);
        Check.due("unify to what is too large", bench.unify(6, 4, 5, true), -1);
        dueLeft(bench);
        Check.due("unify", bench.unify(6, 2, 5, true), 1);
        dueLeft(bench);
        Check.due("rewrite never", bench.rewrite(6, 2, 3, 8), 0);
        dueLeft(bench);
        Check.due("rewrite", bench.rewrite(6, 3, 3, 8), 1);
        dueLeft(bench);
        Check.due("order", bench.order(2, 8), 1);
        Check.due("replace", bench.replace(6, 2, 1, 3), 4);
        Check.dueThrow("replace", Check.NO_SUCH, () -> bench.replace(6, 2, 3, 3));
        Check.dueThrow("match", Check.NO_SUCH, () -> bench.match(-1, 8) ? 1 : 0);
        Check.dueThrow("unify", Check.NO_SUCH, () -> bench.unify(6, 2, 16, true));
        Check.due("symbol", bench.symbol(0, false), 7);
        dueLeft(bench);
        // A value that was fetched is there still.
        dueLeft(bench);
    }

    private static void dueLeft(TermBench bench) {
        dueBound(bench, 7, 0, "g(z, y)");
        dueBound(bench, 7, 2, "b");
        for (int variable : new int[] {1, 3, 4, 5}) {
            dueUnbound(bench, 7, variable);
        }
    }

    /** "no such match": there were calls enough, but no match that was true. */
    private static void noMatchThatWasTrue() {
        TermBench bench = Terms.bench();
        Terms.keep(bench, 0, "g(x, f(y))");
        Terms.keep(bench, 1, "g(a, b)");
        Terms.keep(bench, 2, "g(a, f(f(b)))");
        Terms.keep(bench, 3, "f(z)");
        Terms.keep(bench, 4, "z");
        Check.due("a false match", bench.match(0, 1), false);
        Check.due("unify", bench.unify(5, 0, 2, true), 1);
        Check.due("rewrite", bench.rewrite(6, 2, 3, 4), 2);
        Check.due("order", bench.order(0, 2), 0);
        for (int variable = 0; variable < 6; variable++) {
            dueUnbound(bench, 5, variable);
        }
        Terms.due("stays", bench, 5, "g(a, f(f(b)))");
        Check.due("a true match", bench.match(0, 2), true);
        dueBound(bench, 5, 0, "a");
        dueBound(bench, 5, 1, "f(b)");
        dueUnbound(bench, 5, 2);
    }

    private static void everyVariable() {
        TermBench bench = Terms.bench();
        Terms.keep(bench, 0, "g(k(x, y, z, u, v), w)");
        Terms.keep(bench, 1, "g(k(a, b, f(a), f(b), f(f(a))), f(f(b)))");
        Check.due("match", bench.match(0, 1), true);
        String[] values = {"a", "b", "f(a)", "f(b)", "f(f(a))", "f(f(b))"};
        for (int variable = 0; variable < 6; variable++) {
            dueBound(bench, 2, variable, values[variable]);
        }
        dueUnbound(bench, 2, -1);
        dueUnbound(bench, 2, 6);
        Terms.due("stays", bench, 2, "f(f(b))");
    }

    private static void aMatchWithoutVariables() {
        TermBench bench = matched();
        Terms.keep(bench, 2, "a");
        Check.due("match", bench.match(2, 2), true);
        dueUnbound(bench, 7, 0);
        dueUnbound(bench, 7, 2);
    }

    private static void heaviestValue() {
        TermBench bench = Terms.bench();
        Terms.keep(bench, 0, "f^99(y)");
        Terms.keep(bench, 1, "w");
        Check.due("match", bench.match(1, 0), true);
        dueBound(bench, 2, 5, "f^99(y)");
        Check.due("match", bench.match(0, 0), true);
        dueBound(bench, 2, 1, "y");
    }
}
