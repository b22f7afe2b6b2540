/** unify: the most general values that make two terms the same, and the term that both become. */
public final class Promise06UnifyTest {
    private static final String STAYS = "f(u)";

    public static void main(String[] args) {
        variables();
        symbols();
        repeatedVariables();
        circles();
        predicates();
        sixVariablesAtMost();
        hundredCodesAtMost();
        valuesThatGrowWithoutMeasure();
        slotsThatAreUsedTwice();
        slotsStayWhereNothingIsUnified();
        wrongSlots();
        Check.end();
    }

    private static void variables() {
        due("x", "x", false, "x");
        due("z", "w", false, "x");
        due("z", "w", true, "x");
        due("x", "a", true, "a");
        due("a", "x", false, "a");
        due("v", "g(z, y)", false, "g(x, y)");
        due("g(z, y)", "z", true, "g(x, y)");
        due("g(w, v)", "g(w, v)", false, "g(x, y)");
        due("g(w, v)", "g(w, v)", true, "g(x, y)");
        due("g(x, y)", "g(y, x)", false, "g(x, x)");
        due("g(x, y)", "g(y, x)", true, "g(x, y)");
        due("g(x, x)", "g(x, y)", true, "g(x, x)");
    }

    private static void symbols() {
        due("a", "a", true, "a");
        dueNone("a", "b", true);
        dueNone("f(a)", "f(b)", true);
        dueNone("f(x)", "g(x, x)", true);
        due("g(x, f(a))", "g(f(b), y)", false, "g(f(b), f(a))");
        due("g(x, a)", "g(b, x)", true, "g(b, a)");
        dueNone("g(x, a)", "g(b, x)", false);
        due("k(x, a, x, b, y)", "k(a, x, y, z, z)", true, "k(a, a, a, b, b)");
        dueNone("k(x, a, x, b, f(y))", "k(a, x, y, z, z)", true);
    }

    private static void repeatedVariables() {
        due("g(x, x)", "g(f(y), f(a))", true, "g(f(a), f(a))");
        dueNone("g(x, x)", "g(f(a), f(b))", true);
        due("g(x, g(y, z))", "g(y, g(z, f(u)))", false, "g(f(x), g(f(x), f(x)))");
        due("g(x, g(x, y))", "g(f(y), g(f(z), a))", false, "g(f(a), g(f(a), a))");
        // x and y are made one before they get their values.
        due("k(x, x, y, a, a)", "k(y, f(z), f(b), a, a)", false, "k(f(b), f(b), f(b), a, a)");
        dueNone("k(x, x, y, a, a)", "k(y, f(a), f(b), a, a)", false);
        due("g(g(x, y), g(y, z))", "g(g(u, v), g(w, f(u)))", false, "g(g(x, y), g(y, f(x)))");
        // A heavy value is met again and again before the terms that differ are.
        dueNone("g(x, g(k(x, x, x, x, x), f^40(a)))", "g(f^40(a), g(k(x, x, x, x, x), f^40(b)))", false);
        due("g(x, g(k(y, y, y, y, y), f^10(a)))", "g(f^10(a), g(k(y, y, y, y, x), f^10(z)))", false,
                "g(f^10(a), g(k(" + "f^10(a),".repeat(4) + "f^10(a)), f^10(a)))");
    }

    private static void circles() {
        dueNone("x", "f(x)", false);
        due("x", "f(x)", true, "f(x)");
        dueNone("g(x, y)", "g(f(y), f(x))", false);
        dueNone("g(x, f(x))", "g(y, y)", false);
        dueNone("g(x, f(x))", "g(x, x)", true);
        dueNone("g(x, x)", "g(y, f(y))", true);
        dueNone("g(x, g(y, z))", "g(f(y), g(f(z), f(x)))", false);
        // The circle goes through the terms of two joined terms.
        dueNone("k(x, x, y, a, a)", "k(g(y, z), g(u, v), f(u), a, a)", false);
    }

    private static void predicates() {
        dueNone("x", "p(a)", true);
        dueNone("x", "p(a)", false);
        due("p(x)", "p(a)", true, "p(a)");
        due("p(x)", "p(x)", true, "p(x)");
        dueNone("p(x)", "p(p(a))", true);
        due("x", "f(p(a))", true, "f(p(a))");
        due("f(p(x))", "f(p(f(y)))", true, "f(p(f(x)))");
        dueNone("g(x, x)", "g(y, p(a))", true);
        dueNone("g(x, x)", "g(p(a), p(a))", true);
        due("g(x, p(a))", "g(a, p(y))", true, "g(a, p(a))");
    }

    private static void sixVariablesAtMost() {
        String five = "g(k(x, y, z, u, v), w)";
        due(five, "g(x, f(y))", true, "g(k(x, y, z, u, v), f(w))");
        due(five, "g(x, g(y, y))", true, "g(k(x, y, z, u, v), g(w, w))");
        dueTooLarge(five, "g(x, g(y, z))", true);
        dueTooLarge(five, "g(x, k(y, z, u, v, w))", true);
        dueNone(five, "g(x, g(z, x))", false);
        // That there are no values is told before that there are too many variables.
        dueNone("g(g(k(x, y, z, u, v), w), a)", "g(g(x, k(y, z, u, v, w)), b)", true);
    }

    private static void hundredCodesAtMost() {
        due("f(g(x, x))", "f(g(y, f^48(a)))", true, "f(g(f^48(a), f^48(a)))");
        dueTooLarge("g(x, x)", "g(y, f^49(a))", true);
        dueTooLarge("g(y, f^49(z))", "g(x, x)", false);
        due("g(f^97(x), y)", "g(z, a)", true, "g(f^97(x), a)");
        dueTooLarge("g(f^97(x), y)", "g(z, f(a))", true);
        due("f^99(x)", "f^50(y)", true, "f^99(x)");
        due("f^99(a)", "f^99(x)", true, "f^99(a)");
        due("f^99(a)", "f^99(a)", true, "f^99(a)");
        // That there are no values is told before that the weight is too great.
        dueNone("f^99(a)", "f^99(b)", true);
        dueNone("f^99(x)", "f^98(x)", false);
        dueNone("f^98(x)", "f^98(p(a))", true);
        dueNone("k(x, x, a, a, a)", "k(y, f^90(a), a, a, b)", true);
    }

    private static void valuesThatGrowWithoutMeasure() {
        String fives = fives("y") + "," + fives("z") + "," + fives("u") + "," + fives("v") + "," + fives("w");
        dueTooLarge("k(x, y, z, u, v)", "k(" + fives + ")", false);
        dueNone("g(k(x, y, z, u, v), a)", "g(k(" + fives + "), b)", false);
        dueNone("g(k(x, y, z, u, v), w)", "g(k(" + fives + ")," + fives("x") + ")", false);
        dueNone("g(k(x, y, z, u, v), w)", "g(k(" + fives + "), p(a))", false);
        // Two towers, x over y over z and u over v over w, meet at their tops.
        String towers = fives("y") + "," + fives("z") + "," + fives("v") + "," + fives("w") + ", u";
        dueNone("g(k(x, y, u, v, x), g(z, w))", "g(k(" + towers + "), g(a, b))", false);
        dueTooLarge("g(k(x, y, u, v, x), g(z, w))", "g(k(" + towers + "), g(a, a))", false);
        // Each of twelve variables has the next one seven times inside: as an int, the weight is below 0.
        String a = "k(x," + sevens("y") + ", y," + sevens("z") + ", k(z," + sevens("u") + ", u," + sevens("v");
        String b = "k(" + sevens("x") + ", x," + sevens("y") + ", y, k(" + sevens("z") + ", z," + sevens("u");
        a += ", k(v," + sevens("w") + ", w, a, a)))";
        b += ", u, k(" + sevens("v") + ", v," + sevens("w") + ", a, ";
        dueTooLarge(a, b + "a)))", true);
        dueNone(a, b + "b)))", true);
    }

    private static String fives(String term) {
        return "k(" + String.join(",", term, term, term, term, term) + ")";
    }

    private static String sevens(String term) {
        String two = "g(" + term + "," + term + ")";
        return "k(" + String.join(",", term, two, term, two, term) + ")";
    }

    /** "0: there are none; -1: ... (to stays)", where to is one of the two as well. */
    private static void slotsStayWhereNothingIsUnified() {
        dueStay("g(a, z)", "g(b, z)", 0);
        dueStay("g(w, w)", "g(f^49(a), v)", -1);
        dueStay("g(k(x, y, z, u, v), w)", "g(z, g(y, w))", -1);
    }

    private static void dueStay(String a, String b, int answer) {
        TermBench bench = Terms.bench();
        Terms.keep(bench, 0, a);
        Terms.keep(bench, 1, b);
        for (int to = 0; to < 2; to++) {
            Check.due("unify", bench.unify(to, 0, 1, true), answer);
            Check.due("unify", bench.unify(to, 1, 0, true), answer);
            Terms.due("a stays", bench, 0, a);
            Terms.due("b stays", bench, 1, b);
        }
    }

    private static void slotsThatAreUsedTwice() {
        TermBench bench = Terms.bench();
        Terms.keep(bench, 0, "g(z, a)");
        Terms.keep(bench, 1, "g(b, z)");
        Check.due("to is a", bench.unify(0, 0, 1, true), 1);
        Terms.due("to is a", bench, 0, "g(b, a)");
        Terms.due("b stays", bench, 1, "g(b, z)");
        Check.due("to is b", bench.unify(1, 0, 1, true), 1);
        Terms.due("to is b", bench, 1, "g(b, a)");
        Terms.keep(bench, 2, "g(z, f(y))");
        Check.due("a is b", bench.unify(3, 2, 2, true), 1);
        Terms.due("a is b", bench, 3, "g(x, f(y))");
        Check.due("all are one", bench.unify(2, 2, 2, false), 1);
        Terms.due("all are one", bench, 2, "g(x, f(y))");
        Check.due("the result has its places", bench.replace(2, 2, 1, 0), 6);
        Terms.due("the result has its places", bench, 2, "g(g(b, a), f(y))");
    }

    private static void wrongSlots() {
        TermBench bench = Terms.bench();
        for (int slot : new int[] {-1, 16, Integer.MIN_VALUE, Integer.MAX_VALUE}) {
            Check.dueThrow("unify", Check.NO_SUCH, () -> bench.unify(slot, 0, 0, true));
            Check.dueThrow("unify", Check.NO_SUCH, () -> bench.unify(0, slot, 0, true));
            Check.dueThrow("unify", Check.NO_SUCH, () -> bench.unify(0, 0, slot, false));
        }
    }

    private static void due(String a, String b, boolean apart, String want) {
        dueBothWays(a, b, apart, 1, want);
    }

    private static void dueNone(String a, String b, boolean apart) {
        dueBothWays(a, b, apart, 0, STAYS);
    }

    private static void dueTooLarge(String a, String b, boolean apart) {
        dueBothWays(a, b, apart, -1, STAYS);
    }

    /** The result's variables are numbered anew, so it is the same the other way round. */
    private static void dueBothWays(String a, String b, boolean apart, int answer, String then) {
        dueAnswer(a, b, apart, answer, then);
        dueAnswer(b, a, apart, answer, then);
    }

    private static void dueAnswer(String a, String b, boolean apart, int answer, String then) {
        TermBench bench = Terms.bench();
        Terms.keep(bench, 0, a);
        Terms.keep(bench, 1, b);
        Terms.keep(bench, 2, STAYS);
        String what = "unify of " + a + " and " + b + (apart ? " apart" : "");
        Check.due(what, bench.unify(2, 0, 1, apart), answer);
        Terms.due(what, bench, 2, then);
    }
}
