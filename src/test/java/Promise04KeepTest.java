/** keep: THE ROW becomes the term of a slot, and is empty then. */
public final class Promise04KeepTest {
    public static void main(String[] args) {
        TermBench bench = Check.benchWith(0, 2);
        Check.dueThrow("keep of an empty row", Check.STATE, () -> bench.keep(0));
        bench.put(1);
        bench.put(-3);
        Check.dueThrow("keep of a row that lacks", Check.STATE, () -> bench.keep(0));
        Check.dueThrow("no such slot, row not whole", Check.NO_SUCH, () -> bench.keep(16));
        Check.due("codes", bench.count(1), 2);
        Check.due("lacking", bench.count(2), 1);
        Check.dueTerm("not kept", bench, 0, -1);
        bench.put(0);
        for (int slot : new int[] {-1, 16, 17, Integer.MIN_VALUE, Integer.MAX_VALUE}) {
            Check.dueThrow("keep(" + slot + ")", Check.NO_SUCH, () -> bench.keep(slot));
        }
        Check.due("codes", bench.count(1), 3);
        Check.due("keep", bench.keep(0), 3);
        Check.due("codes", bench.count(1), 0);
        Check.due("lacking", bench.count(2), 1);
        Check.dueThrow("keep again", Check.STATE, () -> bench.keep(0));
        Check.keep(bench, 15, 0);
        Check.keep(bench, 1, 1, 0, 0);
        Check.keep(bench, 1, -6);
        Check.dueTerm("kept", bench, 0, 1, -3, 0);
        Check.dueTerm("kept in the last", bench, 15, 0);
        Check.dueTerm("kept over another", bench, 1, -6);
        Check.dueTerm("never kept", bench, 2, -1);
        lightestAndHeaviest();
        theNextRowIsAnother();
        Check.end();
    }

    private static void lightestAndHeaviest() {
        TermBench bench = Check.benchWith(1);
        Check.keep(bench, 0, Check.chain(99, 0, -1));
        Check.dueTerm("the heaviest", bench, 0, Check.chain(99, 0, -1));
        Check.keep(bench, 0, -2);
        Check.dueTerm("the lightest over it", bench, 0, -2);
        Check.keep(bench, 0, Check.chain(99, 0, -3));
        Check.dueTerm("the heaviest over it", bench, 0, Check.chain(99, 0, -3));
    }

    /** The slot has its term still when THE ROW gets other codes, or is refused. */
    private static void theNextRowIsAnother() {
        TermBench bench = Check.benchWith(0, 2);
        Check.keep(bench, 0, 1, -1, 0);
        bench.put(1);
        bench.put(1);
        bench.put(-2);
        Check.dueThrow("keep", Check.STATE, () -> bench.keep(0));
        Check.dueTerm("kept", bench, 0, 1, -1, 0);
        Check.due("codes", bench.count(1), 3);
        bench.put(-3);
        bench.put(-4);
        Check.due("keep", bench.keep(1), 5);
        Check.dueTerm("kept", bench, 0, 1, -1, 0);
        Check.dueTerm("kept", bench, 1, 1, 1, -2, -3, -4);
    }
}
