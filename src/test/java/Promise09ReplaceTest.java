/** replace: another term at a place of a term. */
public final class Promise09ReplaceTest {
    public static void main(String[] args) {
        everyPlace();
        sameSlots();
        wrongSlotsAndPlaces();
        hundredCodesAtMost();
        Check.end();
    }

    private static TermBench bench() {
        TermBench bench = Terms.bench();
        Terms.keep(bench, 0, "g(f(x), y)");
        Terms.keep(bench, 1, "g(x, p(a))");
        return bench;
    }

    private static void due(TermBench bench, int to, int t, int place, int by, String want) {
        String what = "replace(" + to + ", " + t + ", " + place + ", " + by + ")";
        Check.due(what, bench.replace(to, t, place, by), Terms.codes(want).length);
        Terms.due(what, bench, to, want);
    }

    private static void everyPlace() {
        TermBench bench = bench();
        due(bench, 2, 0, 0, 1, "g(x, p(a))");
        due(bench, 2, 0, 1, 1, "g(g(x, p(a)), y)");
        due(bench, 2, 0, 2, 1, "g(f(g(x, p(a))), y)");
        due(bench, 2, 0, 3, 1, "g(f(x), g(x, p(a)))");
        Check.due("its depth", bench.told(2, 2), 4);
        due(bench, 3, 2, 3, 4, "g(f(x), x)");
        Terms.due("t stays", bench, 0, "g(f(x), y)");
        Terms.due("by stays", bench, 1, "g(x, p(a))");
    }

    private static void sameSlots() {
        TermBench bench = bench();
        due(bench, 0, 0, 1, 1, "g(g(x, p(a)), y)");
        due(bench, 1, 0, 5, 1, "g(g(x, p(a)), g(x, p(a)))");
        due(bench, 1, 1, 8, 1, "g(g(x, p(a)), g(x, p(g(g(x, p(a)), g(x, p(a))))))");
        // The places of a term that replace made are those of its own terms.
        due(bench, 1, 1, 1, 4, "g(x, g(x, p(g(g(x, p(a)), g(x, p(a))))))");
    }

    private static void wrongSlotsAndPlaces() {
        TermBench bench = bench();
        for (int slot : new int[] {-1, 16, Integer.MIN_VALUE, Integer.MAX_VALUE}) {
            Check.dueThrow("replace", Check.NO_SUCH, () -> bench.replace(slot, 0, 0, 1));
            Check.dueThrow("replace", Check.NO_SUCH, () -> bench.replace(2, slot, 0, 1));
            Check.dueThrow("replace", Check.NO_SUCH, () -> bench.replace(2, 0, 0, slot));
        }
        for (int place : new int[] {-1, 4, 100, Integer.MIN_VALUE, Integer.MAX_VALUE}) {
            Check.dueThrow("replace at " + place, Check.NO_SUCH, () -> bench.replace(2, 0, place, 1));
        }
        Terms.due("stays", bench, 2, "x");
    }

    private static void hundredCodesAtMost() {
        TermBench bench = bench();
        Terms.keep(bench, 5, "f^98(x)");
        Terms.keep(bench, 6, "f(y)");
        due(bench, 7, 5, 98, 6, "f^99(y)");
        Check.dueThrow("101", Check.STATE, () -> bench.replace(8, 7, 99, 6));
        Check.dueThrow("101", Check.STATE, () -> bench.replace(7, 6, 1, 7));
        Check.dueThrow("no such place first", Check.NO_SUCH, () -> bench.replace(7, 6, 2, 7));
        Check.dueThrow("no such slot first", Check.NO_SUCH, () -> bench.replace(16, 6, 1, 7));
        Check.due("stays", bench.told(8, 0), 1);
        Check.due("stays", bench.told(7, 0), 100);
        Check.due("the whole", bench.replace(8, 7, 0, 7), 100);
    }
}
