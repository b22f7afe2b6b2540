import java.util.ArrayList;
import java.util.Arrays;
import java.util.HashMap;
import java.util.List;
import java.util.Map;
import java.util.NoSuchElementException;

/**
 * The document once more, as trees and recursion and without any thought of cost: what the bench
 * answers is compared with what this answers.
 */
final class Model {
    /** A code below 0 is a variable, which has no sons. */
    static final class Node {
        final int code;
        final List<Node> sons;

        Node(int code, List<Node> sons) {
            this.code = code;
            this.sons = sons;
        }

        boolean isVariable() {
            return code < 0;
        }

        List<Integer> codes() {
            List<Integer> all = new ArrayList<>();
            all.add(code);
            for (Node son : sons) {
                all.addAll(son.codes());
            }
            return all;
        }

        int weight() {
            return codes().size();
        }

        boolean same(Node other) {
            return codes().equals(other.codes());
        }

        int depth() {
            int deepest = 0;
            for (Node son : sons) {
                deepest = Math.max(deepest, son.depth());
            }
            return deepest + 1;
        }

        int times(int variableCode) {
            int times = 0;
            for (int each : codes()) {
                times += each == variableCode ? 1 : 0;
            }
            return times;
        }

        Node shifted(int by) {
            List<Node> those = new ArrayList<>();
            for (Node son : sons) {
                those.add(son.shifted(by));
            }
            return new Node(isVariable() ? code - by : code, those);
        }

        /** The node at a place, counted through the tree in the order of the codes. */
        Node at(int place) {
            if (place == 0) {
                return this;
            }
            int left = place - 1;
            for (Node son : sons) {
                if (left < son.weight()) {
                    return son.at(left);
                }
                left -= son.weight();
            }
            throw new AssertionError();
        }

        Node with(int place, Node by) {
            if (place == 0) {
                return by;
            }
            List<Node> those = new ArrayList<>();
            int left = place - 1;
            for (Node son : sons) {
                those.add(left >= 0 && left < son.weight() ? son.with(left, by) : son);
                left -= son.weight();
            }
            return new Node(code, those);
        }

        Node filled(Map<Integer, Node> values) {
            if (isVariable()) {
                return values.getOrDefault(code, this);
            }
            List<Node> those = new ArrayList<>();
            for (Node son : sons) {
                those.add(son.filled(values));
            }
            return new Node(code, those);
        }
    }

    private final List<Integer> terms = new ArrayList<>();
    private final List<Boolean> predicates = new ArrayList<>();
    private final Node[] slots = new Node[16];
    private List<Integer> row = new ArrayList<>();
    private Map<Integer, Node> latest = new HashMap<>();
    private int rewritten = 0;

    Model() {
        Arrays.fill(slots, new Node(-1, List.of()));
    }

    private Node slot(int slot) {
        if (slot < 0 || slot > 15) {
            throw new NoSuchElementException();
        }
        return slots[slot];
    }

    int symbol(int termsOfIt, boolean predicate) {
        if (termsOfIt < 0 || termsOfIt > 5) {
            throw new IllegalArgumentException();
        }
        if (terms.size() == 40) {
            throw new IllegalStateException();
        }
        terms.add(termsOfIt);
        predicates.add(predicate);
        return terms.size() - 1;
    }

    private int lacking(List<Integer> codes) {
        int lacking = 1;
        for (int code : codes) {
            lacking += (code < 0 ? 0 : terms.get(code)) - 1;
        }
        return lacking;
    }

    int put(int code) {
        if (code < -6 || code >= terms.size()) {
            throw new NoSuchElementException();
        }
        List<Integer> then = new ArrayList<>(row);
        then.add(code);
        if (lacking(row) == 0 || then.size() + lacking(then) > 100) {
            throw new IllegalStateException();
        }
        row = then;
        return lacking(row);
    }

    /** The node of a slot that there is. */
    Node at(int slot) {
        return slots[slot];
    }

    /** Takes the codes of one term away from the front. */
    Node read(List<Integer> codes) {
        int code = codes.remove(0);
        List<Node> sons = new ArrayList<>();
        for (int i = 0; code >= 0 && i < terms.get(code); i++) {
            sons.add(read(codes));
        }
        return new Node(code, sons);
    }

    int keep(int slot) {
        slot(slot);
        if (lacking(row) != 0) {
            throw new IllegalStateException();
        }
        slots[slot] = read(row);
        return slots[slot].weight();
    }

    static boolean greater(Node s, Node t) {
        for (int variable = -6; variable < 0; variable++) {
            if (s.times(variable) < t.times(variable)) {
                return false;
            }
        }
        if (s.isVariable() || s.weight() != t.weight()) {
            return !s.isVariable() && s.weight() > t.weight();
        }
        if (s.code != t.code) {
            return s.code > t.code;
        }
        for (int i = 0; i < s.sons.size(); i++) {
            if (!s.sons.get(i).same(t.sons.get(i))) {
                return greater(s.sons.get(i), t.sons.get(i));
            }
        }
        return false;
    }

    int order(int a, int b) {
        Node s = slot(a);
        Node t = slot(b);
        return s.same(t) ? 3 : greater(s, t) ? 1 : greater(t, s) ? 2 : 0;
    }

    private boolean beginsWithPredicate(Node node) {
        return !node.isVariable() && predicates.get(node.code);
    }

    private static boolean occurs(int variable, Node in, Map<Integer, Node> values) {
        if (in.isVariable()) {
            Node value = values.get(in.code);
            return in.code == variable || value != null && occurs(variable, value, values);
        }
        for (Node son : in.sons) {
            if (occurs(variable, son, values)) {
                return true;
            }
        }
        return false;
    }

    private boolean solve(Node s, Node t, Map<Integer, Node> values) {
        if (s.isVariable() && t.isVariable() && s.code == t.code) {
            return true;
        }
        if (s.isVariable() && values.containsKey(s.code)) {
            return solve(values.get(s.code), t, values);
        }
        if (t.isVariable() && (values.containsKey(t.code) || !s.isVariable())) {
            return solve(t, s, values);
        }
        if (s.isVariable()) {
            if (occurs(s.code, t, values) || beginsWithPredicate(t)) {
                return false;
            }
            values.put(s.code, t);
            return true;
        }
        if (s.code != t.code) {
            return false;
        }
        for (int i = 0; i < s.sons.size(); i++) {
            if (!solve(s.sons.get(i), t.sons.get(i), values)) {
                return false;
            }
        }
        return true;
    }

    /** Ends with false as soon as there are more than 100 codes. */
    private boolean spell(Node node, Map<Integer, Node> values, List<Integer> codes) {
        if (node.isVariable() && values.containsKey(node.code)) {
            return spell(values.get(node.code), values, codes);
        }
        codes.add(node.code);
        if (codes.size() > 100) {
            return false;
        }
        for (Node son : node.sons) {
            if (!spell(son, values, codes)) {
                return false;
            }
        }
        return true;
    }

    int unify(int to, int a, int b, boolean apart) {
        slot(to);
        Node s = slot(a);
        Node t = slot(b).shifted(apart ? 6 : 0);
        Map<Integer, Node> values = new HashMap<>();
        if (!solve(s, t, values)) {
            return 0;
        }
        List<Integer> codes = new ArrayList<>();
        if (!spell(s, values, codes)) {
            return -1;
        }
        List<Integer> names = new ArrayList<>();
        for (int i = 0; i < codes.size(); i++) {
            if (codes.get(i) < 0) {
                if (!names.contains(codes.get(i))) {
                    names.add(codes.get(i));
                }
                codes.set(i, -1 - names.indexOf(codes.get(i)));
            }
        }
        if (names.size() > 6) {
            return -1;
        }
        slots[to] = read(codes);
        return 1;
    }

    private boolean matches(Node a, Node b, Map<Integer, Node> values) {
        if (a.isVariable()) {
            values.putIfAbsent(a.code, b);
            return values.get(a.code).same(b) && !beginsWithPredicate(b);
        }
        if (a.code != b.code) {
            return false;
        }
        for (int i = 0; i < a.sons.size(); i++) {
            if (!matches(a.sons.get(i), b.sons.get(i), values)) {
                return false;
            }
        }
        return true;
    }

    boolean match(int a, int b) {
        Map<Integer, Node> values = new HashMap<>();
        if (!matches(slot(a), slot(b), values)) {
            return false;
        }
        latest = values;
        return true;
    }

    int bound(int to, int variable) {
        slot(to);
        if (variable < 0 || variable > 5 || !latest.containsKey(-1 - variable)) {
            throw new NoSuchElementException();
        }
        slots[to] = latest.get(-1 - variable);
        return slots[to].weight();
    }

    int replace(int to, int t, int place, int by) {
        slot(to);
        Node node = slot(t);
        Node other = slot(by);
        if (place < 0 || place >= node.weight()) {
            throw new NoSuchElementException();
        }
        Node then = node.with(place, other);
        if (then.weight() > 100) {
            throw new IllegalStateException();
        }
        slots[to] = then;
        return then.weight();
    }

    private Node rewrittenOnce(Node t, Node l, Node r) {
        for (int variable = -6; variable < 0; variable++) {
            if (r.times(variable) > 0 && l.times(variable) == 0) {
                return null;
            }
        }
        for (int place = 0; place < t.weight(); place++) {
            Map<Integer, Node> values = new HashMap<>();
            if (matches(l, t.at(place), values) && greater(t.at(place), r.filled(values))) {
                return t.with(place, r.filled(values));
            }
        }
        return null;
    }

    int rewrite(int to, int t, int l, int r) {
        slot(to);
        Node node = slot(t);
        slot(l);
        slot(r);
        int times = 0;
        Node next = rewrittenOnce(node, slots[l], slots[r]);
        while (next != null && times < 60) {
            times++;
            node = next;
            next = rewrittenOnce(node, slots[l], slots[r]);
        }
        slots[to] = node;
        rewritten += times;
        return times;
    }

    int code(int slot, int i) {
        List<Integer> codes = slot(slot).codes();
        if (i < 0 || i >= codes.size()) {
            throw new NoSuchElementException();
        }
        return codes.get(i);
    }

    int told(int slot, int what) {
        Node node = slot(slot);
        switch (what) {
            case 0:
                return node.weight();
            case 1:
                return (int) node.codes().stream().filter(code -> code < 0).distinct().count();
            case 2:
                return node.depth();
            default:
                throw new IllegalArgumentException();
        }
    }

    int count(int what) {
        int[] counts = {terms.size(), row.size(), lacking(row), rewritten};
        return what >= 0 && what < counts.length ? counts[what] : -1;
    }
}
