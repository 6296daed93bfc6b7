import java.util.ArrayDeque;
import java.util.ArrayList;
import java.util.Arrays;
import java.util.Comparator;
import java.util.Deque;
import java.util.HashMap;
import java.util.HashSet;
import java.util.LinkedHashMap;
import java.util.List;
import java.util.Map;
import java.util.NoSuchElementException;
import java.util.Set;
import java.util.TreeSet;

/**
 * The document told a second time, by other means and without a thought for speed: a text is judged by a stack of
 * what must still come, worked as a tree, and each answer comes from runs made anew.
 */
final class Model {
    private final StringBuilder tape = new StringBuilder();
    private final Map<Integer, List<Node>> texts = new HashMap<>();
    private final int[] begins = new int[8];
    private final int[] kept = new int[16];
    private final List<int[]> asks = new ArrayList<>();
    private final Set<Integer> noise = new TreeSet<>();

    /** A part of a text: what it is, its number if it is one, and its parts. */
    private static final class Node {
        final String what;
        final int number;
        final List<Node> parts = new ArrayList<>();

        Node(String what, int number, Node... parts) {
            this.what = what;
            this.number = number;
            this.parts.addAll(Arrays.asList(parts));
        }
    }

    /** A word, a number or a sign, where it stands. */
    private record Token(String text, int place) {
        boolean isNumber() {
            return Character.isDigit(text.charAt(0)) && text.charAt(0) < 128;
        }
    }

    private static final class Deed {
        final List<Integer> answer = new ArrayList<>();
        final Set<Integer> reads = new TreeSet<>();
        final Set<Integer> writes = new TreeSet<>();
        int steps;
    }

    private static final class Past {
        final Map<Integer, Deed> deeds = new LinkedHashMap<>();
        final Set<Node> stepsDone = new HashSet<>();
        int[] values;
        int latest;
        int calls;
    }

    int feed(int... numbers) {
        if (tape.length() + 20 > 400) {
            return -1;
        }
        for (int number : numbers) {
            tape.append((char) (number >>> 24)).append((char) (number >>> 16 & 255));
            tape.append((char) (number >>> 8 & 255)).append((char) (number & 255));
        }
        return tape.length();
    }

    int text(int version, int kind, int n) {
        allow(within(version, 2) && within(kind, 4) && within(n, tape.length() + 1));
        String text = tape.substring(0, n);
        tape.setLength(0);
        List<Token> tokens = tokens(text);
        int place = place(tokens, text.length());
        if (place >= 0) {
            return -2 - place;
        }
        List<Node> steps = new ArrayList<>();
        Deque<Token> left = new ArrayDeque<>(tokens);
        while (!left.isEmpty()) {
            steps.add(step(left));
        }
        texts.put(version * 4 + kind, steps);
        return steps(steps).size();
    }

    private static List<Token> tokens(String text) {
        List<Token> tokens = new ArrayList<>();
        int at = 0;
        while (at < text.length()) {
            int to = at + 1;
            if (isLetter(text.charAt(at))) {
                while (to < text.length() && isLetter(text.charAt(to))) {
                    to++;
                }
            } else if (isDigit(text.charAt(at))) {
                while (to < text.length() && isDigit(text.charAt(to))) {
                    to++;
                }
            }
            if (text.charAt(at) != ' ') {
                tokens.add(new Token(text.substring(at, to), at));
            }
            at = to;
        }
        return tokens;
    }

    private static boolean isLetter(char c) {
        return c >= 'a' && c <= 'z';
    }

    private static boolean isDigit(char c) {
        return c >= '0' && c <= '9';
    }

    /** Where a text stops being one, or -1. The stack holds what may come next, the nearest first. */
    private static int place(List<Token> tokens, int length) {
        Deque<String> due = new ArrayDeque<>(List.of("S*"));
        int[] open = new int[3];
        for (Token token : tokens) {
            if (!takes(due, token.isNumber() ? "0" : token.text, open)) {
                return token.place;
            }
            if (token.isNumber() && token.text.length() > 6) {
                return token.place + 6;
            }
        }
        while (!due.isEmpty()) {
            String next = due.pop();
            if (!next.equals("S*") && !next.equals("done")) {
                return length;
            }
        }
        return -1;
    }

    /** Moves the stack over one token; open counts all S, open whens and what is open of get, outside and (. */
    private static boolean takes(Deque<String> due, String token, int[] open) {
        while (!due.isEmpty()) {
            String next = due.pop();
            switch (next) {
                case "S*":
                    if (token.equals("put") || token.equals("say") || token.equals("when")) {
                        return beginStep(due, token, open);
                    }
                    break;
                case "E":
                    lay(due, "Q", "E?");
                    break;
                case "E?":
                    if (token.equals("<") || token.equals("=")) {
                        due.push("Q");
                        return true;
                    }
                    break;
                case "Q":
                    lay(due, "T", "Q*");
                    break;
                case "Q*":
                    if (token.equals("+") || token.equals("-") || token.equals("*")) {
                        lay(due, "T", "Q*");
                        return true;
                    }
                    break;
                case "T":
                    return beginTerm(due, token, open);
                case "shut":
                    open[2]--;
                    break;
                case "done":
                    open[1]--;
                    break;
                default:
                    return next.equals(token);
            }
        }
        return false;
    }

    private static void lay(Deque<String> due, String... parts) {
        for (int i = parts.length - 1; i >= 0; i--) {
            due.push(parts[i]);
        }
    }

    private static boolean beginStep(Deque<String> due, String token, int[] open) {
        if (++open[0] > 30) {
            return false;
        }
        if (token.equals("put")) {
            lay(due, "Q", "Q", ";", "S*");
        } else if (token.equals("say")) {
            lay(due, "E", ";", "S*");
        } else {
            lay(due, "E", "(", "S*", ")", "done", "S*");
            return ++open[1] <= 6;
        }
        return true;
    }

    private static boolean beginTerm(Deque<String> due, String token, int[] open) {
        switch (token) {
            case "0":
            case "a":
            case "b":
            case "id":
                return true;
            case "get":
            case "outside":
                lay(due, "T", "shut");
                return ++open[2] <= 12;
            case "(":
                lay(due, "E", ")", "shut");
                return ++open[2] <= 12;
            default:
                return false;
        }
    }

    private static Node step(Deque<Token> left) {
        Node step = new Node(left.pop().text, 0);
        if (step.what.equals("put")) {
            step.parts.add(sum(left));
            step.parts.add(sum(left));
            left.pop();
        } else if (step.what.equals("say")) {
            step.parts.add(compare(left));
            left.pop();
        } else {
            step.parts.add(compare(left));
            left.pop();
            while (!left.peek().text.equals(")")) {
                step.parts.add(step(left));
            }
            left.pop();
        }
        return step;
    }

    private static boolean comes(Deque<Token> left, String signs) {
        return signs.contains(left.peek().text);
    }

    private static Node compare(Deque<Token> left) {
        Node node = sum(left);
        return comes(left, "<=") ? new Node(left.pop().text, 0, node, sum(left)) : node;
    }

    private static Node sum(Deque<Token> left) {
        Node node = term(left);
        while (comes(left, "+") || comes(left, "-") || comes(left, "*")) {
            node = new Node(left.pop().text, 0, node, term(left));
        }
        return node;
    }

    private static Node term(Deque<Token> left) {
        Token token = left.pop();
        if (token.isNumber()) {
            return new Node("number", Integer.parseInt(token.text));
        }
        if (token.text.equals("(")) {
            Node node = compare(left);
            left.pop();
            return node;
        }
        if (token.text.equals("get") || token.text.equals("outside")) {
            return new Node(token.text, 0, term(left));
        }
        return new Node(token.text, 0);
    }

    private static List<Node> steps(List<Node> nodes) {
        List<Node> all = new ArrayList<>();
        for (Node node : nodes) {
            all.add(node);
            if (node.what.equals("when")) {
                all.addAll(steps(node.parts.subList(1, node.parts.size())));
            }
        }
        return all;
    }

    private static void allow(boolean fits) {
        if (!fits) {
            throw new IllegalArgumentException();
        }
    }

    private static void allowIndex(boolean fits) {
        if (!fits) {
            throw new IndexOutOfBoundsException();
        }
    }

    private void need(int ask) {
        if (!within(ask, asks.size())) {
            throw new NoSuchElementException();
        }
    }

    private static boolean within(int value, int bound) {
        return value >= 0 && value < bound;
    }

    int begin(int key, int value) {
        allowIndex(within(key, 8));
        int was = begins[key];
        begins[key] = value;
        return was;
    }

    int keep(int argument, int value) {
        allowIndex(within(argument, 16));
        int was = kept[argument];
        kept[argument] = value;
        return was;
    }

    int ask(int kind, int a, int b, int tick) {
        allow(within(kind, 4) && within(tick, 100001));
        if (asks.size() == 30) {
            return -1;
        }
        asks.add(new int[] {kind, a, b, tick, -1, 0});
        return asks.size() - 1;
    }

    int caused(int ask, int by, int field) {
        need(ask);
        if (by != -1) {
            need(by);
        }
        allow(by < ask && within(field, 8));
        asks.get(ask)[4] = by;
        asks.get(ask)[5] = field;
        return 1;
    }

    /** All asks, as they are done. */
    private List<Integer> all() {
        List<Integer> all = new ArrayList<>();
        for (int i = 0; i < asks.size(); i++) {
            all.add(i);
        }
        all.sort(Comparator.comparingInt((Integer i) -> asks.get(i)[3]).thenComparingInt(i -> i));
        return all;
    }

    private Past run(int version, List<Integer> with, int latest) {
        Past past = new Past();
        past.values = begins.clone();
        past.latest = latest;
        for (int i : with) {
            int[] ask = asks.get(i);
            int a = ask[1];
            if (past.deeds.containsKey(ask[4]) && past.deeds.get(ask[4]).answer.size() > ask[5]) {
                a = past.deeds.get(ask[4]).answer.get(ask[5]);
            }
            Deed deed = new Deed();
            doSteps(texts.getOrDefault(version * 4 + ask[0], List.of()), a, ask[2], past, deed);
            past.deeds.put(i, deed);
        }
        return past;
    }

    private void doSteps(List<Node> steps, int a, int b, Past past, Deed deed) {
        for (Node step : steps) {
            deed.steps++;
            past.stepsDone.add(step);
            int first = value(step.parts.get(0), a, b, past, deed);
            if (step.what.equals("put")) {
                int second = value(step.parts.get(1), a, b, past, deed);
                past.values[first & 7] = second;
                deed.writes.add(first & 7);
            } else if (step.what.equals("say")) {
                if (deed.answer.size() < 8) {
                    deed.answer.add(first);
                }
            } else if (first != 0) {
                doSteps(step.parts.subList(1, step.parts.size()), a, b, past, deed);
            }
        }
    }

    private int value(Node node, int a, int b, Past past, Deed deed) {
        int left = node.parts.isEmpty() ? 0 : value(node.parts.get(0), a, b, past, deed);
        int right = node.parts.size() < 2 ? 0 : value(node.parts.get(1), a, b, past, deed);
        switch (node.what) {
            case "number":
                return node.number;
            case "a":
                return a;
            case "b":
                return b;
            case "id":
                return ++past.latest;
            case "get":
                deed.reads.add(left & 7);
                return past.values[left & 7];
            case "outside":
                past.calls++;
                return kept[left & 15];
            case "+":
                return left + right;
            case "-":
                return left - right;
            case "*":
                return left * right;
            case "<":
                return left < right ? 1 : 0;
            case "=":
                return left == right ? 1 : 0;
            default:
                throw new IllegalStateException(node.what);
        }
    }

    int fields(int version, int ask) {
        need(ask);
        allow(within(version, 2));
        return run(version, all(), 0).deeds.get(ask).answer.size();
    }

    int field(int version, int ask, int field) {
        need(ask);
        allow(within(version, 2));
        List<Integer> answer = run(version, all(), 0).deeds.get(ask).answer;
        return within(field, answer.size()) ? answer.get(field) : 0;
    }

    int end(int version, int key) {
        allowIndex(within(key, 8));
        allow(within(version, 2));
        return run(version, all(), 0).values[key];
    }

    int touched(int version, int ask, int what) {
        need(ask);
        allow(within(version, 2) && within(what, 3));
        Deed deed = run(version, all(), 0).deeds.get(ask);
        int bits = 0;
        for (int key : what == 0 ? deed.reads : deed.writes) {
            bits |= 1 << key;
        }
        return what == 2 ? deed.steps : bits;
    }

    int calls(int version) {
        allow(within(version, 2));
        return run(version, all(), 0).calls;
    }

    int never(int version, int kind) {
        allow(within(version, 2) && within(kind, 4));
        List<Node> steps = steps(texts.getOrDefault(version * 4 + kind, List.of()));
        steps.removeAll(run(version, all(), 0).stepsDone);
        return steps.size();
    }

    boolean noise(int kind, int field, boolean is) {
        allow(within(kind, 4) && within(field, 8));
        return is ? !noise.add(kind * 8 + field) : noise.remove(kind * 8 + field);
    }

    int learn() {
        int was = noise.size();
        Past one = run(0, all(), 0);
        Past other = run(0, all(), 1000000);
        for (int i = 0; i < asks.size(); i++) {
            List<Integer> x = one.deeds.get(i).answer;
            List<Integer> y = other.deeds.get(i).answer;
            for (int field = 0; field < x.size() && field < y.size(); field++) {
                if (!x.get(field).equals(y.get(field))) {
                    noise.add(asks.get(i)[0] * 8 + field);
                }
            }
        }
        return noise.size() - was;
    }

    private int where(int ask, List<Integer> with) {
        List<Integer> x = run(0, with, 0).deeds.get(ask).answer;
        List<Integer> y = run(1, with, 0).deeds.get(ask).answer;
        for (int field = 0; field < x.size() && field < y.size(); field++) {
            if (!x.get(field).equals(y.get(field)) && !noise.contains(asks.get(ask)[0] * 8 + field)) {
                return field;
            }
        }
        return x.size() == y.size() ? -1 : Math.min(x.size(), y.size());
    }

    int differs(int ask) {
        need(ask);
        return where(ask, all());
    }

    private List<List<Integer>> allShapes() {
        Map<String, List<Integer>> shapes = new LinkedHashMap<>();
        for (int i = 0; i < asks.size(); i++) {
            int where = where(i, all());
            if (where != -1) {
                shapes.computeIfAbsent(asks.get(i)[0] + " at " + where, key -> new ArrayList<>()).add(i);
            }
        }
        return new ArrayList<>(shapes.values());
    }

    int shapes() {
        return allShapes().size();
    }

    int shape(int k, int what) {
        allow(within(what, 4));
        List<List<Integer>> shapes = allShapes();
        if (!within(k, shapes.size())) {
            return -1;
        }
        int lowest = shapes.get(k).get(0);
        int[] told = {asks.get(lowest)[0], where(lowest, all()), shapes.get(k).size(), lowest};
        return told[what];
    }

    private static boolean meet(Set<Integer> some, Set<Integer> others) {
        return some.stream().anyMatch(others::contains);
    }

    boolean touch(int ask, int other) {
        need(ask);
        need(other);
        if (ask == other) {
            return false;
        }
        Past past = run(0, all(), 0);
        Deed x = past.deeds.get(ask);
        Deed y = past.deeds.get(other);
        return meet(x.writes, y.writes) || meet(x.writes, y.reads) || meet(x.reads, y.writes)
                || asks.get(ask)[4] == other || asks.get(other)[4] == ask;
    }

    int free(int ask) {
        need(ask);
        int free = 0;
        for (int i = 0; i < asks.size(); i++) {
            free += i == ask || touch(ask, i) ? 0 : 1;
        }
        return free;
    }

    /** Those of the ten that are in, or null: every set is tried, and the best one kept. */
    private List<Integer> fewest(int ask) {
        List<Integer> all = all();
        if (where(ask, all) == -1) {
            return null;
        }
        List<Integer> ahead = all.subList(0, all.indexOf(ask));
        int from = Math.max(0, ahead.size() - 10);
        List<Integer> ten = ahead.subList(from, ahead.size());
        List<Integer> best = null;
        for (int bits = (1 << ten.size()) - 1; bits >= 0; bits--) {
            List<Integer> in = new ArrayList<>();
            for (int i = 0; i < ten.size(); i++) {
                if ((bits >> ten.size() - 1 - i & 1) == 1) {
                    in.add(ten.get(i));
                }
            }
            List<Integer> with = new ArrayList<>(ahead.subList(0, from));
            with.addAll(in);
            with.add(ask);
            if ((best == null || in.size() < best.size()) && where(ask, with) != -1) {
                best = in;
            }
        }
        return best;
    }

    int small(int ask) {
        need(ask);
        List<Integer> in = fewest(ask);
        return in == null ? -1 : in.size();
    }

    int smallest(int ask, int k) {
        need(ask);
        List<Integer> in = fewest(ask);
        return in == null || !within(k, in.size()) ? -1 : in.get(k);
    }

    int lag(int version, int p, int q) {
        allow(within(version, 2) && within(p - 1, 1000) && within(q - 1, 1000));
        Past past = run(version, all(), 0);
        long until = 0;
        long lag = 0;
        for (int i : all()) {
            long comes = (long) asks.get(i)[3] * p / q;
            long from = comes < until ? until : comes;
            lag = Math.max(lag, from - comes);
            until = from + Math.max(past.deeds.get(i).steps, 1);
        }
        return (int) lag;
    }

    int count(int what) {
        if (what == 3) {
            return texts.values().stream().mapToInt(text -> steps(text).size()).sum();
        }
        int[] counts = {asks.size(), noise.size(), tape.length()};
        return within(what, 3) ? counts[what] : -1;
    }
}
