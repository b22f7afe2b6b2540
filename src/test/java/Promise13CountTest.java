/** count: symbols, the row's codes, what it lacks, and how often something was rewritten in all. */
public final class Promise13CountTest {
    public static void main(String[] args) {
        TermBench bench = Check.benchWith(0, 1, 3);
        due(bench, 3, 0, 1, 0);
        bench.put(2);
        due(bench, 3, 1, 3, 0);
        bench.put(1);
        due(bench, 3, 2, 3, 0);
        bench.put(0);
        due(bench, 3, 3, 2, 0);
        bench.put(-1);
        bench.put(-1);
        due(bench, 3, 5, 0, 0);
        bench.keep(0);
        due(bench, 3, 0, 1, 0);
        bench.symbol(5, true);
        due(bench, 4, 0, 1, 0);
        rewritten(bench);
        for (int what : new int[] {-1, 4, 5, Integer.MIN_VALUE, Integer.MAX_VALUE}) {
            Check.due("count(" + what + ")", bench.count(what), -1);
        }
        Check.end();
    }

    private static void rewritten(TermBench bench) {
        Check.keep(bench, 0, 1, 1, 1, 0);
        Check.keep(bench, 1, 1, -1);
        Check.due("rewrite", bench.rewrite(3, 0, 1, 2), 3);
        due(bench, 4, 0, 1, 3);
        Check.due("rewrite", bench.rewrite(3, 3, 1, 2), 0);
        due(bench, 4, 0, 1, 3);
        Check.due("rewrite", bench.rewrite(4, 0, 1, 2), 3);
        due(bench, 4, 0, 1, 6);
        Check.due("match", bench.match(1, 0), true);
        Check.due("replace", bench.replace(5, 0, 1, 1), 3);
        due(bench, 4, 0, 1, 6);
        Check.dueThrow("rewrite", Check.NO_SUCH, () -> bench.rewrite(4, 0, 1, 16));
        due(bench, 4, 0, 1, 6);
    }

    private static void due(TermBench bench, int symbols, int codes, int lacking, int rewritten) {
        Check.due("count(0)", bench.count(0), symbols);
        Check.due("count(1)", bench.count(1), codes);
        Check.due("count(2)", bench.count(2), lacking);
        Check.due("count(3)", bench.count(3), rewritten);
    }
}
