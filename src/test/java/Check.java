import java.util.Arrays;
import java.util.NoSuchElementException;

/** What the tests share: a bench under test, and the answers that are due. */
final class Check {
    interface Call {
        long run();
    }

    static final Class<?> NO_SUCH = NoSuchElementException.class;
    static final Class<?> STATE = IllegalStateException.class;
    static final Class<?> ARGUMENT = IllegalArgumentException.class;

    private static final int SECONDS = 300;

    private static int wrong = 0;

    static {
        endLateTests();
    }

    private Check() {
    }

    /** A call that never ends is a fault, too: the test fails then and does not hang. */
    private static void endLateTests() {
        Thread watch = new Thread(() -> {
            try {
                Thread.sleep(SECONDS * 1000L);
            } catch (InterruptedException e) {
                return;
            }
            System.out.println("the test did not end within " + SECONDS + " seconds");
            Runtime.getRuntime().halt(1);
        });
        watch.setDaemon(true);
        watch.start();
    }

    static void due(String what, long got, long want) {
        if (got != want) {
            wrong++;
            System.out.println(what + " answered " + got + ", due is " + want);
        }
    }

    static void due(String what, boolean got, boolean want) {
        due(what, got ? 1 : 0, want ? 1 : 0);
    }

    static void dueText(String what, String got, String want) {
        if (!got.equals(want)) {
            wrong++;
            System.out.println(what + ": " + got + ", due is " + want);
        }
    }

    static void dueThrow(String what, Class<?> want, Call call) {
        Class<?> got = null;
        try {
            call.run();
        } catch (RuntimeException e) {
            got = e.getClass();
        }
        if (got != want) {
            wrong++;
            System.out.println(what + " threw " + got + ", due is " + want);
        }
    }

    static void dueTerm(String what, TermBench bench, int slot, int... want) {
        int[] got = termOf(bench, slot);
        if (!Arrays.equals(got, want)) {
            wrong++;
            System.out.println(what + ": slot " + slot + " is " + Arrays.toString(got)
                    + ", due is " + Arrays.toString(want));
        }
    }

    static int[] termOf(TermBench bench, int slot) {
        int[] codes = new int[bench.told(slot, 0)];
        for (int i = 0; i < codes.length; i++) {
            codes[i] = bench.code(slot, i);
        }
        return codes;
    }

    /** The term comes into the slot; THE ROW must be empty before. */
    static void keep(TermBench bench, int slot, int... codes) {
        for (int code : codes) {
            bench.put(code);
        }
        due("keep(" + slot + ")", bench.keep(slot), codes.length);
    }

    /** Symbol i is a function with so many terms. */
    static TermBench benchWith(int... terms) {
        TermBench bench = new TermBench();
        for (int each : terms) {
            bench.symbol(each, false);
        }
        return bench;
    }

    /** So many codes of the one, then the other. */
    static int[] chain(int length, int code, int last) {
        int[] codes = new int[length + 1];
        Arrays.fill(codes, code);
        codes[length] = last;
        return codes;
    }

    static void end() {
        if (wrong != 0) {
            System.out.println(wrong + " answers are not as due");
            System.exit(1);
        }
    }
}
