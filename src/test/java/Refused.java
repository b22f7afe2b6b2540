import java.util.Arrays;

/** Refused calls: the exception that is due comes, and nothing is changed. */
final class Refused {
    interface Start {
        TermBench make();
    }

    interface Call {
        long on(TermBench bench);
    }

    private interface View {
        String of(TermBench bench);
    }

    /** Each looks at a bench of its own: most of them change it, and all in one would be too many calls. */
    private static final View[] VIEWS = {
        Refused::counts, Refused::slots, Refused::valuesOfTheMatch, Refused::row, Refused::symbols,
    };

    private Refused() {
    }

    static void due(String what, Class<?> want, Start start, Call call) {
        for (View view : VIEWS) {
            TermBench refused = start.make();
            Check.dueThrow(what, want, () -> call.on(refused));
            Check.dueText(what + " changes nothing", view.of(refused), view.of(start.make()));
        }
    }

    private static String counts(TermBench bench) {
        int[] counts = {bench.count(0), bench.count(1), bench.count(2), bench.count(3)};
        return "counts " + Arrays.toString(counts);
    }

    private static String slots(TermBench bench) {
        StringBuilder text = new StringBuilder("slots");
        for (int slot = 0; slot < 16; slot++) {
            text.append(' ').append(Arrays.toString(Check.termOf(bench, slot)));
        }
        return text.toString();
    }

    private static String valuesOfTheMatch(TermBench bench) {
        StringBuilder text = new StringBuilder("values");
        for (int variable = 0; variable < 6; variable++) {
            text.append(' ').append(valueOf(bench, variable));
        }
        return text.toString();
    }

    private static String valueOf(TermBench bench, int variable) {
        try {
            bench.bound(0, variable);
        } catch (RuntimeException e) {
            return "none";
        }
        return Arrays.toString(Check.termOf(bench, 0));
    }

    private static String row(TermBench bench) {
        keepRow(bench, 0);
        return "row, filled with variable 5, " + Arrays.toString(Check.termOf(bench, 0));
    }

    private static void keepRow(TermBench bench, int slot) {
        for (int lacking = bench.count(2); lacking > 0; lacking--) {
            bench.put(-6);
        }
        bench.keep(slot);
    }

    /** How many terms each has, and whether a variable may get it as its value. */
    private static String symbols(TermBench bench) {
        StringBuilder text = new StringBuilder("symbols");
        keepRow(bench, 0);
        keepRow(bench, 1);
        int symbols = bench.count(0);
        for (int number = 0; number < symbols; number++) {
            text.append(' ').append(bench.put(number));
            keepRow(bench, 0);
            text.append(bench.match(1, 0) ? "function" : "predicate");
        }
        return text.toString();
    }
}
