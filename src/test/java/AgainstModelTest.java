import java.util.ArrayList;
import java.util.List;
import java.util.Map;
import java.util.TreeMap;

/** Long runs of calls, the same in every run of the test, on a bench and on the model beside it. */
public final class AgainstModelTest {
    private static final int RUNS = 3000;
    private static final int CALLS = 512;
    private static final int THREW = -1000;

    /** A generator of its own, so that the runs never change. */
    private static final class Dice {
        private long state;

        Dice(long seed) {
            state = seed * 0x9E3779B97F4A7C15L + 1;
        }

        int below(int bound) {
            state = state * 6364136223846793005L + 1442695040888963407L;
            return (int) ((state >>> 33) % bound);
        }

        boolean once(int in) {
            return below(in) == 0;
        }
    }

    private final Dice dice;
    private final int run;
    private final TermBench bench = new TermBench();
    private final Model model = new Model();
    private final List<String> calls = new ArrayList<>();
    private final List<Integer> terms = new ArrayList<>();
    private final int variables;
    private final int heaviest;
    private static final Map<String, Integer> SEEN = new TreeMap<>();

    private AgainstModelTest(int run) {
        this.run = run;
        dice = new Dice(run);
        variables = 1 + dice.below(6);
        heaviest = dice.once(5) ? 60 : 5 + dice.below(12);
    }

    public static void main(String[] args) {
        for (int run = 0; run < RUNS; run++) {
            new AgainstModelTest(run).runCalls();
        }
        everyKindOfAnswerCame();
        Check.end();
    }

    /** Were one of these missing, the runs would say little. */
    private static void everyKindOfAnswerCame() {
        for (String each : new String[] {"order 0", "order 1", "order 2", "order 3", "unify -1", "unify 0",
            "unify 1", "match 0", "match 1", "rewrite 0", "rewrite 1", "rewrite 2", "rewrite 5",
            "put IllegalStateException", "replace IllegalStateException", "bound NoSuchElementException"}) {
            Check.due("runs had " + each, SEEN.containsKey(each), true);
        }
    }

    private void runCalls() {
        int symbols = 1 + dice.below(6);
        for (int i = 0; i < symbols; i++) {
            newSymbol();
        }
        for (int slot = 0; slot < 4; slot++) {
            keepCodes(randomCodes(2 + dice.below(heaviest)), slot);
        }
        while (calls.size() < CALLS) {
            oneStep();
        }
    }

    private void newSymbol() {
        int count = dice.once(3) ? 0 : dice.once(2) ? 1 : dice.once(6) ? dice.below(8) - 1 : 2;
        boolean predicate = dice.once(5);
        long number = both("symbol", "(" + count + ", " + predicate + ")",
                () -> bench.symbol(count, predicate), () -> model.symbol(count, predicate));
        if (number == terms.size()) {
            terms.add(count);
        }
    }

    private void oneStep() {
        switch (dice.below(14)) {
            case 0: case 1:
                keepCodes(randomCodes(1 + dice.below(heaviest)), slot());
                break;
            case 2:
                keepCodes(variant(model.at(usualSlot()), heaviest).codes(), slot());
                break;
            case 3: case 4:
                makeAPair();
                break;
            case 5:
                callOrder(slot(), slot());
                break;
            case 6: case 7:
                callUnify(slot(), slot(), slot(), dice.once(2));
                break;
            case 8:
                callMatch(slot(), slot());
                break;
            case 9:
                callBound();
                break;
            case 10:
                callReplace();
                break;
            case 11:
                makeARule();
                break;
            case 12:
                callCount();
                break;
            default:
                lookAtASlot(slot());
                break;
        }
    }

    private int slot() {
        return dice.once(60) ? dice.below(40) - 12 : usualSlot();
    }

    private int usualSlot() {
        return dice.below(4);
    }

    private List<Integer> randomCodes(int room) {
        List<Integer> codes = new ArrayList<>();
        int lacking = 1;
        while (lacking > 0) {
            int code = codes.size() + lacking < room ? inner() : leaf();
            codes.add(code);
            lacking += code < 0 ? -1 : terms.get(code) - 1;
        }
        return codes;
    }

    /** Three throws: a symbol without terms comes seldom, so that most terms find their weight. */
    private int inner() {
        int code = leaf();
        for (int i = 0; i < 3 && (code < 0 || terms.get(code) == 0) && !terms.isEmpty(); i++) {
            code = dice.below(terms.size());
        }
        return code;
    }

    private int leaf() {
        int code = dice.below(terms.size() + variables) - variables;
        return code >= 0 && terms.get(code) > 0 ? -1 - dice.below(variables) : code;
    }

    /** The term with other terms at a few places, most of them variables. */
    private Model.Node variant(Model.Node of, int most) {
        Model.Node node = of;
        int changes = 1 + dice.below(4);
        for (int i = 0; i < changes; i++) {
            List<Integer> codes = randomCodes(dice.once(3) ? 1 + dice.below(8) : 1);
            int place = node.weight() > 1 && !dice.once(20) ? 1 + dice.below(node.weight() - 1) : 0;
            Model.Node then = node.with(place, model.read(codes));
            node = then.weight() <= most ? then : node;
        }
        return node.weight() <= most ? node : node.at(dice.below(node.weight()));
    }

    private void keepCodes(List<Integer> codes, int to) {
        for (int code : codes) {
            put(dice.once(200) ? dice.below(60) - 12 : code);
        }
        if (dice.once(20)) {
            put(dice.below(60) - 12);
        }
        // What went wrong on the way is mended, so that the row comes to an end.
        for (int i = 0; i < 100 && model.count(2) > 0; i++) {
            put(-1);
        }
        both("keep", "(" + to + ")", () -> bench.keep(to), () -> model.keep(to));
        if (model.count(2) == 0) {
            both("keep", "(0)", () -> bench.keep(0), () -> model.keep(0));
        }
    }

    private void put(int code) {
        both("put", "(" + code + ")", () -> bench.put(code), () -> model.put(code));
    }

    /** Two terms that one and the same term was made into: many have a common instance. */
    private void makeAPair() {
        int a = usualSlot();
        int b = usualSlot();
        Model.Node node = model.read(randomCodes(1 + heaviest / 2 + dice.below(heaviest)));
        keepCodes(variant(node, 100).codes(), a);
        keepCodes((dice.once(2) ? node : variant(node, 100)).codes(), b);
        callMatch(a, b);
        callBound();
        callOrder(a, b);
        callUnify(slot(), a, b, dice.once(2));
    }

    /** A left side like a term inside t, a right side like a term inside the left one. */
    private void makeARule() {
        int t = usualSlot();
        int l = usualSlot();
        int r = usualSlot();
        if (dice.once(3)) {
            newSymbol();
        }
        Model.Node inside = model.at(t).at(dice.below(model.at(t).weight()));
        keepCodes(variant(inside, 12).codes(), l);
        Model.Node left = model.at(l);
        Model.Node right = left.at(dice.below(left.weight()));
        keepCodes((dice.once(2) ? right : variant(dice.once(2) ? left : right, 12)).codes(), r);
        callRewrite(slot(), t, l, r);
        callRewrite(slot(), slot(), slot(), slot());
    }

    private void callOrder(int a, int b) {
        both("order", "(" + a + ", " + b + ")", () -> bench.order(a, b), () -> model.order(a, b));
    }

    private void callUnify(int to, int a, int b, boolean apart) {
        both("unify", "(" + to + ", " + a + ", " + b + ", " + apart + ")",
                () -> bench.unify(to, a, b, apart), () -> model.unify(to, a, b, apart));
        lookAtASlot(to);
    }

    private void callMatch(int a, int b) {
        both("match", "(" + a + ", " + b + ")",
                () -> bench.match(a, b) ? 1 : 0, () -> model.match(a, b) ? 1 : 0);
    }

    private void callBound() {
        int to = slot();
        int variable = dice.below(variables + 2) - 1;
        both("bound", "(" + to + ", " + variable + ")",
                () -> bench.bound(to, variable), () -> model.bound(to, variable));
        lookAtASlot(to);
    }

    private void callReplace() {
        int to = slot();
        int t = slot();
        int by = slot();
        int place = dice.once(5) ? dice.below(102) - 1 : dice.below(model.at(usualSlot()).weight());
        both("replace", "(" + to + ", " + t + ", " + place + ", " + by + ")",
                () -> bench.replace(to, t, place, by), () -> model.replace(to, t, place, by));
        lookAtASlot(to);
    }

    private void callRewrite(int to, int t, int l, int r) {
        both("rewrite", "(" + to + ", " + t + ", " + l + ", " + r + ")",
                () -> bench.rewrite(to, t, l, r), () -> model.rewrite(to, t, l, r));
        lookAtASlot(to);
    }

    private void callCount() {
        int what = dice.below(6) - 1;
        both("count", "(" + what + ")", () -> bench.count(what), () -> model.count(what));
    }

    /** Every code when the slot is light, and a few when it is heavy: a run has 512 calls. */
    private void lookAtASlot(int slot) {
        int what = dice.below(3);
        both("told", "(" + slot + ", " + what + ")", () -> bench.told(slot, what), () -> model.told(slot, what));
        if (dice.once(30)) {
            both("told", "(" + slot + ", 3)", () -> bench.told(slot, 3), () -> model.told(slot, 3));
        }
        int looks = dice.once(3) ? 30 : 4;
        int from = dice.once(2) ? 0 : dice.below(slot >= 0 && slot < 16 ? model.at(slot).weight() : 5);
        for (int i = from; i < from + looks && calls.size() < CALLS; i++) {
            int place = i;
            if (both("code", "(" + slot + ", " + place + ")",
                    () -> bench.code(slot, place), () -> model.code(slot, place)) == THREW) {
                break;
            }
        }
    }

    /** The answer, or THREW. */
    private long both(String name, String arguments, Check.Call ofBench, Check.Call ofModel) {
        if (calls.size() >= CALLS) {
            return THREW;
        }
        String got = answer(ofBench);
        String want = answer(ofModel);
        calls.add(name + arguments + " = " + got);
        SEEN.merge(name + " " + want, 1, Integer::sum);
        if (!got.equals(want)) {
            int from = Math.max(0, calls.size() - 40);
            System.out.println("run " + run + ": " + calls.subList(from, calls.size()));
            Check.due("run " + run + ": due is " + want + "; " + name + arguments, 0, 1);
            Check.end();
        }
        return got.endsWith("Exception") ? THREW : Long.parseLong(got);
    }

    private static String answer(Check.Call call) {
        try {
            return Long.toString(call.run());
        } catch (RuntimeException e) {
            return e.getClass().getSimpleName();
        }
    }
}
