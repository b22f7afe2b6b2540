/** replace: another term at a place of a term. */
public final class Promise09ReplaceTest {
    public static void main(String[] args) {
        everyPlace();
        sameSlots();
        wrongSlotsAndPlaces();
        hundredCodesAtMost();
        hundredCodesAtMostInTheMiddle();
        firstAndLastPlace();
        Check.end();
    }

    private static TermBench bench() {
        TermBench bench = Terms.bench();
        Terms.keep(bench, 0, "g(f(x), y)");
        Terms.keep(bench, 1, "g(x, p(a))");
        return bench;
    }

    private static void due(TermBench bench, int to, int t, int place, int by, String want) {
        String what = "replace(" + to + ", " + t + ", " + place + ", " + by + ")";
        Check.due(what, bench.replace(to, t, place, by), Terms.codes(want).length);
        Terms.due(what, bench, to, want);
    }

    private static void everyPlace() {
        TermBench bench = bench();
        due(bench, 2, 0, 0, 1, "g(x, p(a))");
        due(bench, 2, 0, 1, 1, "g(g(x, p(a)), y)");
        due(bench, 2, 0, 2, 1, "g(f(g(x, p(a))), y)");
        due(bench, 2, 0, 3, 1, "g(f(x), g(x, p(a)))");
        Check.due("its depth", bench.told(2, 2), 4);
        due(bench, 3, 2, 3, 4, "g(f(x), x)");
        Terms.due("t stays", bench, 0, "g(f(x), y)");
        Terms.due("by stays", bench, 1, "g(x, p(a))");
    }

    private static void sameSlots() {
        TermBench bench = bench();
        due(bench, 0, 0, 1, 1, "g(g(x, p(a)), y)");
        due(bench, 1, 0, 5, 1, "g(g(x, p(a)), g(x, p(a)))");
        due(bench, 1, 1, 8, 1, "g(g(x, p(a)), g(x, p(g(g(x, p(a)), g(x, p(a))))))");
        // The places of a term that replace made are those of its own terms.
        due(bench, 1, 1, 1, 4, "g(x, g(x, p(g(g(x, p(a)), g(x, p(a))))))");
    }

    private static void wrongSlotsAndPlaces() {
        TermBench bench = bench();
        for (int slot : new int[] {-1, 16, Integer.MIN_VALUE, Integer.MAX_VALUE}) {
            Check.dueThrow("replace", Check.NO_SUCH, () -> bench.replace(slot, 0, 0, 1));
            Check.dueThrow("replace", Check.NO_SUCH, () -> bench.replace(2, slot, 0, 1));
            Check.dueThrow("replace", Check.NO_SUCH, () -> bench.replace(2, 0, 0, slot));
        }
        for (int place : new int[] {-1, 4, 100, Integer.MIN_VALUE, Integer.MAX_VALUE}) {
            Check.dueThrow("replace at " + place, Check.NO_SUCH, () -> bench.replace(2, 0, place, 1));
        }
        Terms.due("stays", bench, 2, "x");
    }

    /** What is taken away makes room for what comes. */
    private static void hundredCodesAtMostInTheMiddle() {
        TermBench bench = bench();
        Terms.keep(bench, 5, "g(f^49(a), f^48(x))");
        Terms.keep(bench, 6, "f^49(b)");
        Terms.keep(bench, 7, "f(a)");
        due(bench, 8, 5, 1, 6, "g(f^49(b), f^48(x))");
        Check.due("50 for 50", bench.replace(9, 6, 0, 6), 50);
        Check.dueThrow("50 for 49", Check.STATE, () -> bench.replace(8, 5, 51, 6));
        Check.dueThrow("50 for 49", Check.STATE, () -> bench.replace(8, 5, 2, 6));
        Check.dueThrow("2 for 1", Check.STATE, () -> bench.replace(8, 5, 50, 7));
        Check.due("2 for 2", bench.replace(9, 5, 49, 7), 100);
        Check.due("2 for 3", bench.replace(9, 5, 48, 7), 99);
        Terms.due("stays", bench, 8, "g(f^49(b), f^48(x))");
    }

    /** "no such SLOT or PLACE": place 0 and the last one are there, the ones beside them are not. */
    private static void firstAndLastPlace() {
        TermBench bench = bench();
        due(bench, 2, 4, 0, 0, "g(f(x), y)");
        Check.dueThrow("place 1 of a variable", Check.NO_SUCH, () -> bench.replace(2, 4, 1, 0));
        Check.dueThrow("place -1 of a variable", Check.NO_SUCH, () -> bench.replace(2, 4, -1, 0));
        Terms.keep(bench, 5, "f^99(x)");
        Terms.keep(bench, 6, "a");
        due(bench, 7, 5, 99, 6, "f^99(a)");
        Check.dueThrow("place 100", Check.NO_SUCH, () -> bench.replace(7, 5, 100, 6));
        due(bench, 7, 5, 0, 6, "a");
        // The place is one of t alone, not of what is in the slot to, or comes.
        Check.dueThrow("place 1", Check.NO_SUCH, () -> bench.replace(5, 6, 1, 5));
        due(bench, 5, 6, 0, 5, "f^99(x)");
    }

    private static void hundredCodesAtMost() {
        TermBench bench = bench();
        Terms.keep(bench, 5, "f^98(x)");
        Terms.keep(bench, 6, "f(y)");
        due(bench, 7, 5, 98, 6, "f^99(y)");
        Check.dueThrow("101", Check.STATE, () -> bench.replace(8, 7, 99, 6));
        Check.dueThrow("101", Check.STATE, () -> bench.replace(7, 6, 1, 7));
        Check.dueThrow("no such place first", Check.NO_SUCH, () -> bench.replace(7, 6, 2, 7));
        Check.dueThrow("no such slot first", Check.NO_SUCH, () -> bench.replace(16, 6, 1, 7));
        Check.due("stays", bench.told(8, 0), 1);
        Check.due("stays", bench.told(7, 0), 100);
        Check.due("the whole", bench.replace(8, 7, 0, 7), 100);
    }
}
