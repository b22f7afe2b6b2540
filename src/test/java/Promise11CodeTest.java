/** code: a code of a slot's term. */
public final class Promise11CodeTest {
    public static void main(String[] args) {
        TermBench bench = Check.benchWith(0, 3);
        Check.keep(bench, 9, 1, -6, 0, -1);
        int[] want = {1, -6, 0, -1};
        for (int i = 0; i < want.length; i++) {
            Check.due("code(9, " + i + ")", bench.code(9, i), want[i]);
        }
        for (int i : new int[] {-1, 4, 99, 100, Integer.MIN_VALUE, Integer.MAX_VALUE}) {
            Check.dueThrow("code(9, " + i + ")", Check.NO_SUCH, () -> bench.code(9, i));
        }
        for (int slot : new int[] {-1, 16, Integer.MIN_VALUE, Integer.MAX_VALUE}) {
            Check.dueThrow("code(" + slot + ", 0)", Check.NO_SUCH, () -> bench.code(slot, 0));
        }
        // A lighter term leaves no place of the one before it.
        Check.keep(bench, 9, 0);
        Check.due("code(9, 0)", bench.code(9, 0), 0);
        Check.dueThrow("code(9, 1)", Check.NO_SUCH, () -> bench.code(9, 1));
        Check.due("code(15, 0)", bench.code(15, 0), -1);
        Check.dueThrow("code(15, 1)", Check.NO_SUCH, () -> bench.code(15, 1));
        Check.dueThrow("code(15, -1)", Check.NO_SUCH, () -> bench.code(15, -1));
        heaviest();
        Check.end();
    }

    private static void heaviest() {
        TermBench bench = Check.benchWith(1);
        Check.keep(bench, 0, Check.chain(99, 0, -6));
        Check.due("code(0, 0)", bench.code(0, 0), 0);
        Check.due("code(0, 98)", bench.code(0, 98), 0);
        Check.due("code(0, 99)", bench.code(0, 99), -6);
        Check.dueThrow("code(0, 100)", Check.NO_SUCH, () -> bench.code(0, 100));
        Check.dueThrow("code(0, -1)", Check.NO_SUCH, () -> bench.code(0, -1));
    }
}
