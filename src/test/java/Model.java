import java.util.ArrayDeque;
import java.util.ArrayList;
import java.util.Arrays;
import java.util.Collections;
import java.util.List;
import java.util.Map;
import java.util.TreeMap;
import java.util.TreeSet;

/**
 * A second, slow telling of the document, with lists, trees and exceptions, to which BallotBook is compared.
 * It shares no code with it, and solves the slips another way (station by station, over the sum of moved).
 */
final class Model {
    static final class Fault extends RuntimeException {
        final int number;

        Fault(int place, int kind) {
            number = 1 + 8 * place + kind;
        }
    }

    static final class Station {
        TreeSet<Integer> stock = new TreeSet<>();
        List<Integer> box = new ArrayList<>();
        List<Integer> spoiled = new ArrayList<>();
        int waiting;
        int had;
        Integer[] told = new Integer[3];
        boolean recounted;

        Station copy() {
            Station c = new Station();
            c.stock.addAll(stock);
            c.box.addAll(box);
            c.spoiled.addAll(spoiled);
            c.waiting = waiting;
            c.had = had;
            c.told = told.clone();
            c.recounted = recounted;
            return c;
        }

        int size(int what) {
            return what == 0 ? stock.size() : what == 1 ? box.size() : what == 2 ? spoiled.size() : waiting;
        }

        List<int[]> runs() {
            List<int[]> all = new ArrayList<>();
            for (int n : stock) {
                if (!all.isEmpty() && all.get(all.size() - 1)[1] == n - 1) {
                    all.get(all.size() - 1)[1] = n;
                } else {
                    all.add(new int[] {n, n});
                }
            }
            return all;
        }

        boolean can() {
            return waiting > 0 && !stock.isEmpty();
        }
    }

    static final class State {
        List<Station> stations = new ArrayList<>();
        Map<String, Integer> moved = new TreeMap<>();
        Map<Integer, List<Integer>> ways = new TreeMap<>();
        int hour;
        int printed;

        State copy() {
            State c = new State();
            for (Station s : stations) {
                c.stations.add(s.copy());
            }
            c.moved.putAll(moved);
            for (Map.Entry<Integer, List<Integer>> e : ways.entrySet()) {
                c.ways.put(e.getKey(), new ArrayList<>(e.getValue()));
            }
            c.hour = hour;
            c.printed = printed;
            return c;
        }

        int moved(int from, int to) {
            return moved.getOrDefault(from + ">" + to, 0);
        }

        void addMoved(int from, int to, List<Integer> papers) {
            moved.merge(from + ">" + to, papers.size(), Integer::sum);
            for (int p : papers) {
                ways.computeIfAbsent(p, k -> new ArrayList<>()).add(to);
            }
        }

        int sum(int what) {
            int sum = 0;
            for (Station s : stations) {
                sum += s.size(what);
            }
            return sum;
        }

        Station holder(int paper) {
            for (Station s : stations) {
                if (s.stock.contains(paper) || s.box.contains(paper) || s.spoiled.contains(paper)) {
                    return s;
                }
            }
            return null;
        }

        int pass(List<Clause> rule) {
            int best = -1;
            long most = 0;
            for (int i = stations.size() - 1; i >= 0; i--) {
                if (!stations.get(i).can()) {
                    continue;
                }
                long worth = 1;
                if (rule != null) {
                    worth = 0;
                    for (Clause c : rule) {
                        if (c.test == null || c.test.value(this, i) != 0) {
                            worth = c.sum.value(this, i);
                            break;
                        }
                    }
                }
                if (worth > 0 && worth >= most) {
                    most = worth;
                    best = i;
                }
            }
            if (best >= 0) {
                Station s = stations.get(best);
                Integer given = s.stock.pollFirst();
                if (given % 7 == 3) {
                    s.spoiled.add(given);
                    given = s.stock.pollFirst();
                }
                if (given != null) {
                    s.box.add(given);
                    s.waiting--;
                }
            }
            hour++;
            return best;
        }
    }

    static final class Node {
        final String op;
        final long number;
        final Node a;
        final Node b;

        Node(String op, long number, Node a, Node b) {
            this.op = op;
            this.number = number;
            this.a = a;
            this.b = b;
        }

        long value(State state, int i) {
            Station s = state.stations.get(i);
            switch (op) {
                case "number": return number;
                case "station": return i;
                case "waiting": return s.waiting;
                case "stock": return s.stock.size();
                case "box": return s.box.size();
                case "spoiled": return s.spoiled.size();
                case "next": return s.stock.first();
                case "runs": return s.runs().size();
                case "crowd": return state.sum(3);
                case "left": return state.sum(0);
                case "hour": return state.hour;
                case "not": return a.value(state, i) == 0 ? 1 : 0;
                default: break;
            }
            long x = a.value(state, i);
            long y = b.value(state, i);
            switch (op) {
                case "+": return x + y;
                case "-": return x - y;
                case "*": return x * y;
                case "/": return y == 0 ? 0 : x / y;
                case "%": return y == 0 ? 0 : x % y;
                case "<": return x < y ? 1 : 0;
                case "<=": return x <= y ? 1 : 0;
                case "=": return x == y ? 1 : 0;
                case ">=": return x >= y ? 1 : 0;
                case ">": return x > y ? 1 : 0;
                case "and": return x != 0 && y != 0 ? 1 : 0;
                case "or": return x != 0 || y != 0 ? 1 : 0;
                default: throw new IllegalStateException(op);
            }
        }
    }

    static final class Clause {
        Node sum;
        Node test;
    }

    /** Tokens: words, digits, signs; each with its place; the end is the empty text. */
    static final class Texts {
        final List<String> tokens = new ArrayList<>();
        final List<Integer> places = new ArrayList<>();
        int at;
        int parts;

        Texts(int[] bytes, int length) {
            int i = 0;
            while (i < length) {
                int c = bytes[i];
                int from = i;
                i++;
                if (c == 32) {
                    continue;
                }
                if (c >= 'a' && c <= 'z') {
                    while (i < length && bytes[i] >= 'a' && bytes[i] <= 'z') {
                        i++;
                    }
                } else if (c >= '0' && c <= '9') {
                    while (i < length && bytes[i] >= '0' && bytes[i] <= '9') {
                        i++;
                    }
                } else if ((c == '<' || c == '>') && i < length && bytes[i] == '=') {
                    i++;
                }
                StringBuilder token = new StringBuilder();
                for (int k = from; k < i; k++) {
                    token.append((char) bytes[k]);
                }
                tokens.add(token.toString());
                places.add(from);
            }
            tokens.add("");
            places.add(length);
        }

        String peek() {
            return tokens.get(at);
        }

        int place() {
            return places.get(at);
        }

        boolean take(String token) {
            if (!peek().equals(token)) {
                return false;
            }
            at++;
            return true;
        }

        boolean isNumber() {
            return !peek().isEmpty() && Character.isDigit(peek().charAt(0)) && peek().charAt(0) < 128;
        }

        int number() {
            if (!isNumber()) {
                throw new Fault(place(), 0);
            }
            if (peek().length() > 5) {
                throw new Fault(place(), 1);
            }
            at++;
            return Integer.parseInt(tokens.get(at - 1));
        }

        void need(boolean right) {
            if (!right) {
                throw new Fault(places.get(at - 1), 1);
            }
        }

        State election() {
            State state = new State();
            TreeSet<Integer> spoiled = new TreeSet<>();
            for (int clause = 1;; clause++) {
                String word = peek();
                if (!Arrays.asList("papers", "station", "voters", "spoiled").contains(word)) {
                    throw new Fault(place(), 0);
                }
                if (clause > 40 || word.equals("papers") != (clause == 1)
                        || word.equals("station") && state.stations.size() == 5) {
                    throw new Fault(place(), 4);
                }
                at++;
                if (word.equals("papers")) {
                    state.printed = number();
                    need(state.printed >= 1 && state.printed <= 60);
                } else if (word.equals("station")) {
                    int from = number();
                    need(from < state.printed && state.holder(from) == null);
                    int to = number();
                    need(to >= from && to < state.printed);
                    Station s = new Station();
                    for (int p = from; p <= to; p++) {
                        need(state.holder(p) == null);
                        s.stock.add(p);
                    }
                    s.had = s.stock.size();
                    state.stations.add(s);
                } else if (word.equals("voters")) {
                    int station = number();
                    need(station < state.stations.size());
                    int many = number();
                    need(many <= 60);
                    state.stations.get(station).waiting = many;
                } else {
                    int paper = number();
                    need(state.holder(paper) != null);
                    spoiled.add(paper);
                }
                if (peek().isEmpty()) {
                    break;
                }
                if (!take(";")) {
                    throw new Fault(place(), 0);
                }
            }
            for (int p : spoiled) {
                Station s = state.holder(p);
                s.stock.remove(p);
                s.spoiled.add(p);
            }
            return state;
        }

        List<Clause> rule() {
            List<Clause> all = new ArrayList<>();
            while (true) {
                if (!peek().equals("serve")) {
                    throw new Fault(place(), 0);
                }
                if (all.size() == 12) {
                    throw new Fault(place(), 4);
                }
                at++;
                Clause c = new Clause();
                c.sum = sum();
                if (take("if")) {
                    c.test = test(0);
                }
                all.add(c);
                if (peek().isEmpty()) {
                    return all;
                }
                if (!take(";")) {
                    throw new Fault(place(), 0);
                }
            }
        }

        Node test(int depth) {
            Node left = part(depth);
            while (take("or")) {
                left = new Node("or", 0, left, part(depth));
            }
            return left;
        }

        Node part(int depth) {
            Node left = fact(depth);
            while (take("and")) {
                left = new Node("and", 0, left, fact(depth));
            }
            return left;
        }

        Node fact(int depth) {
            if (peek().equals("[") || peek().equals("not")) {
                if (depth == 10) {
                    throw new Fault(place(), 2);
                }
                if (take("not")) {
                    return new Node("not", 0, fact(depth + 1), null);
                }
                at++;
                Node inner = test(depth + 1);
                if (!take("]")) {
                    throw new Fault(place(), 0);
                }
                return inner;
            }
            Node left = sum();
            String sign = peek();
            if (!Arrays.asList("<", "<=", "=", ">=", ">").contains(sign)) {
                throw new Fault(place(), 0);
            }
            oneMore(place());
            at++;
            return new Node(sign, 0, left, sum());
        }

        Node sum() {
            Node left = term();
            while (peek().equals("+") || peek().equals("-")) {
                String op = peek();
                at++;
                left = new Node(op, 0, left, term());
            }
            return left;
        }

        Node term() {
            Node left = value();
            while (peek().equals("*") || peek().equals("/") || peek().equals("%")) {
                String op = peek();
                at++;
                left = new Node(op, 0, left, value());
            }
            return left;
        }

        Node value() {
            int place = place();
            if (isNumber()) {
                int n = number();
                oneMore(place);
                return new Node("number", n, null, null);
            }
            if (!Arrays.asList("station", "waiting", "stock", "box", "spoiled", "next", "runs", "crowd", "left",
                    "hour").contains(peek())) {
                throw new Fault(place, 0);
            }
            oneMore(place);
            at++;
            return new Node(tokens.get(at - 1), 0, null, null);
        }

        void oneMore(int place) {
            parts++;
            if (parts > 60) {
                throw new Fault(place, 3);
            }
        }
    }

    static final class Image {
        State now;
        State begin;
        List<int[]> notes;
        int x;
        int force;
    }

    private int[] tape = new int[400];
    private int tapeLength;
    private State begin;
    private State now = new State();
    private final List<List<Clause>> rules = new ArrayList<>();
    private int inForce = -1;
    private List<int[]> notes = new ArrayList<>();
    private int x;
    private final ArrayDeque<State> undo = new ArrayDeque<>();
    private final Image[] images = new Image[4];

    int feed(int a, int b, int c, int d, int e) {
        if (tapeLength > 380) {
            return -1;
        }
        for (int n : new int[] {a, b, c, d, e}) {
            for (int k = 3; k >= 0; k--) {
                tape[tapeLength++] = (n >> 8 * k) & 0xff;
            }
        }
        return tapeLength;
    }

    int end(int n) {
        if (n < 0 || n > tapeLength) {
            return -1;
        }
        return tapeLength = n;
    }

    int election() {
        Texts texts = new Texts(tape, tapeLength);
        tapeLength = 0;
        try {
            begin = texts.election();
        } catch (Fault f) {
            return -2 - f.number;
        }
        now = begin.copy();
        notes.clear();
        undo.clear();
        return now.stations.size();
    }

    int rule() {
        if (rules.size() == 6) {
            return -1;
        }
        Texts texts = new Texts(tape, tapeLength);
        tapeLength = 0;
        try {
            rules.add(texts.rule());
        } catch (Fault f) {
            return -2 - f.number;
        }
        return rules.size() - 1;
    }

    int force(int rule) {
        if (rule < -1 || rule >= rules.size()) {
            return -2;
        }
        int was = inForce;
        inForce = rule;
        return was;
    }

    private boolean is(int station) {
        return 0 <= station && station < now.stations.size();
    }

    private Station at(int station) {
        return now.stations.get(station);
    }

    private List<Clause> forced() {
        return inForce < 0 ? null : rules.get(inForce);
    }

    int station(int station, int what) {
        if (!is(station) || what < 0 || what > 5) {
            return -1;
        }
        return what == 4 ? at(station).had : what == 5 ? at(station).recounted ? 1 : 0 : at(station).size(what);
    }

    int paper(int paper, int what) {
        Station s = now.holder(paper);
        if (s == null) {
            return -1;
        }
        switch (what) {
            case 0: return now.stations.indexOf(s);
            case 1: return s.stock.contains(paper) ? 0 : s.box.contains(paper) ? 1 : 2;
            case 2: return s.stock.contains(paper) ? s.stock.headSet(paper).size()
                    : Math.max(s.box.indexOf(paper), s.spoiled.indexOf(paper));
            default: return -1;
        }
    }

    int row(int station, int what, int place) {
        if (!is(station) || what != 1 && what != 2 || place < 0 || place >= at(station).size(what)) {
            return -1;
        }
        return what == 1 ? at(station).box.get(place) : at(station).spoiled.get(place);
    }

    int runs(int station, int run, int what) {
        if (!is(station)) {
            return -2;
        }
        List<int[]> all = at(station).runs();
        if (run == -1) {
            return all.size();
        }
        return run < 0 || run >= all.size() || what < 0 || what > 1 ? -2 : all.get(run)[what];
    }

    int moved(int from, int to) {
        return !is(from) || !is(to) || from == to ? -1 : now.moved(from, to);
    }

    int told(int station, int what) {
        if (!is(station) || what < 0 || what > 2) {
            return -1;
        }
        return at(station).told[what] == null ? -2 : at(station).told[what];
    }

    private void keep() {
        undo.addLast(now.copy());
        if (undo.size() > 20) {
            undo.removeFirst();
        }
    }

    int hour() {
        if (begin == null || now.hour == 999) {
            return -1;
        }
        keep();
        int s = now.pass(forced());
        return s < 0 ? -2 : s;
    }

    private boolean two(int from, int to, int many) {
        return is(from) && is(to) && from != to && many >= 1 && many <= 9;
    }

    int move(int from, int to, int many) {
        if (!two(from, to, many) || at(from).box.size() < many) {
            return -1;
        }
        keep();
        List<Integer> papers = new ArrayList<>(at(from).box.subList(0, many));
        at(from).box.subList(0, many).clear();
        at(to).box.addAll(papers);
        now.addMoved(from, to, papers);
        return at(to).box.size();
    }

    int lend(int from, int to, int many) {
        if (!two(from, to, many) || at(from).stock.size() < many) {
            return -1;
        }
        keep();
        List<Integer> papers = new ArrayList<>();
        for (int i = 0; i < many; i++) {
            papers.add(at(from).stock.pollLast());
        }
        at(to).stock.addAll(papers);
        now.addMoved(from, to, papers);
        return at(to).stock.size();
    }

    int spoil(int paper) {
        Station s = now.holder(paper);
        if (s == null || s.spoiled.contains(paper)) {
            return -1;
        }
        keep();
        s.stock.remove(paper);
        s.box.remove((Integer) paper);
        s.spoiled.add(paper);
        return s.spoiled.size();
    }

    int find(int paper) {
        Station s = now.holder(paper);
        if (s == null || !s.spoiled.contains(paper)) {
            return -1;
        }
        keep();
        s.spoiled.remove((Integer) paper);
        s.box.add(paper);
        return s.box.size();
    }

    int send(int from, int to, int many) {
        if (!two(from, to, many) || at(from).waiting < many) {
            return -1;
        }
        keep();
        at(from).waiting -= many;
        at(to).waiting += many;
        return at(to).waiting;
    }

    private static int toldCount(Station s) {
        int n = 0;
        for (Integer t : s.told) {
            n += t == null ? 0 : 1;
        }
        return n;
    }

    int tell(int station, int what, int number) {
        if (!is(station) || what < 0 || what > 2 || number < 0 || number > 60 || at(station).recounted) {
            return -1;
        }
        keep();
        at(station).told[what] = number;
        return toldCount(at(station));
    }

    int recount(int station) {
        if (!is(station) || at(station).recounted) {
            return -1;
        }
        keep();
        Station s = at(station);
        for (int i = 0; i < 3; i++) {
            s.told[i] = s.size(i);
        }
        s.recounted = true;
        int n = 0;
        for (Station t : now.stations) {
            n += t.recounted ? 1 : 0;
        }
        return n;
    }

    int undo() {
        if (undo.isEmpty()) {
            return -1;
        }
        now = undo.removeLast();
        return undo.size();
    }

    int way(int paper, int k) {
        if (now.holder(paper) == null || k < 0) {
            return -1;
        }
        List<Integer> way = now.ways.getOrDefault(paper, Collections.emptyList());
        int kept = Math.min(12, way.size());
        return k == 0 ? kept : k > kept ? -2 : way.get(k - 1);
    }

    private int gap(int station) {
        int gap = at(station).had;
        for (int i = 0; i < now.stations.size(); i++) {
            gap += now.moved(i, station) - now.moved(station, i);
        }
        for (int t : at(station).told) {
            gap -= t;
        }
        return gap;
    }

    int balance(int station) {
        if (!is(station)) {
            return -1;
        }
        return toldCount(at(station)) < 3 ? -2 : gap(station) + 1000;
    }

    private static final int NEVER = 1 << 29;

    /**
     * Cost (2000 * slips + tens) of the stations from each on, by the sum of what moved slips brought so far.
     * A station with gap g, ten t and brought f has g - 10 t + f to be closed by ones.
     */
    private static int[][] costs(int[] gaps, boolean[] fixed, int wide) {
        int n = gaps.length;
        int[][] cost = new int[n + 1][2 * wide + 1];
        Arrays.fill(cost[n], NEVER);
        cost[n][wide] = 0;
        for (int s = n - 1; s >= 0; s--) {
            Arrays.fill(cost[s], NEVER);
            for (int net = 0; net <= 2 * wide; net++) {
                for (int then = 0; then <= 2 * wide; then++) {
                    if (cost[s + 1][then] >= NEVER) {
                        continue;
                    }
                    for (int t = fixed[s] ? 0 : -3; t <= (fixed[s] ? 0 : 3); t++) {
                        int c = step(gaps[s], then - net, t, fixed[s]);
                        if (c < NEVER) {
                            cost[s][net] = Math.min(cost[s][net], c + cost[s + 1][then]);
                        }
                    }
                }
            }
        }
        return cost;
    }

    private static int step(int gap, int brought, int tens, boolean fixed) {
        int ones = gap - 10 * tens + brought;
        if (fixed && ones != 0) {
            return NEVER;
        }
        // a moved slip brings one here and takes one there, so each half of it counts
        return 2000 * (Math.abs(ones) + Math.abs(tens)) + 1000 * Math.abs(brought) + Math.abs(tens);
    }

    private int[] solve(int recountedToo) {
        int n = now.stations.size();
        int[] gaps = new int[n];
        boolean[] fixed = new boolean[n];
        for (int s = 0; s < n; s++) {
            if (s != recountedToo && toldCount(at(s)) < 3) {
                return null;
            }
            fixed[s] = s == recountedToo || at(s).recounted;
            gaps[s] = s == recountedToo ? 0 : gap(s);
        }
        return solve(gaps, fixed);
    }

    /** slips, tens, slips of moved, tens of each; null if there is no way. */
    private static int[] solve(int[] gaps, boolean[] fixed) {
        int n = gaps.length;
        // no more moved slips than twice the gaps: so many close them without tens
        int wide = 2 * Arrays.stream(gaps).map(Math::abs).sum() + 1;
        int[][] cost = costs(gaps, fixed, wide);
        if (cost[0][wide] >= NEVER) {
            return null;
        }
        int[] answer = new int[3 + n];
        answer[0] = cost[0][wide] / 2000;
        answer[1] = cost[0][wide] % 2000;
        TreeSet<String> ends = new TreeSet<>();
        ends.add(wide + " 0");
        for (int s = 0; s < n; s++) {
            TreeSet<String> next = new TreeSet<>();
            for (int t = -3; t <= 3 && next.isEmpty(); t++) {
                for (String e : ends) {
                    int net = Integer.parseInt(e.split(" ")[0]);
                    int halves = Integer.parseInt(e.split(" ")[1]);
                    for (int then = 0; then <= 2 * wide; then++) {
                        if (fixed[s] && t != 0 || cost[s + 1][then] >= NEVER) {
                            continue;
                        }
                        int c = step(gaps[s], then - net, t, fixed[s]);
                        if (c < NEVER && c + cost[s + 1][then] == cost[s][net]) {
                            next.add(then + " " + (halves + Math.abs(then - net)));
                        }
                    }
                }
                answer[3 + s] = t;
            }
            ends = next;
        }
        if (ends.size() != 1) {
            throw new IllegalStateException("slips of moved are not told by the tens: " + ends);
        }
        answer[2] = Integer.parseInt(ends.first().split(" ")[1]) / 2;
        return answer;
    }

    int slips(int what) {
        if (now.stations.isEmpty() || what < 0 || what >= 3 + now.stations.size()) {
            return -3;
        }
        int[] answer = solve(-1);
        return answer == null ? -2 : what >= 3 ? answer[what] + 100 : answer[what];
    }

    private int mustBits() {
        int n = now.stations.size();
        int[] gaps = new int[n];
        boolean[] fixed = new boolean[n];
        for (int s = 0; s < n; s++) {
            gaps[s] = gap(s);
            fixed[s] = at(s).recounted;
        }
        int fewest = solve(gaps, fixed)[0];
        int bits = 0;
        for (int s = 0; s < n; s++) {
            if (!fixed[s]) {
                fixed[s] = true;
                int[] without = solve(gaps, fixed);
                fixed[s] = false;
                bits |= without == null || without[0] > fewest ? 1 << s : 0;
            }
        }
        return bits;
    }

    int must() {
        return now.stations.isEmpty() ? -3 : solve(-1) == null ? -2 : mustBits();
    }

    int free() {
        return now.stations.isEmpty() ? -3
                : solve(-1) == null ? -2 : (1 << now.stations.size()) - 1 - mustBits();
    }

    int leaves(int station) {
        if (!is(station) || at(station).recounted) {
            return -1;
        }
        int[] answer = solve(station);
        return answer == null ? -2 : answer[0];
    }

    int ahead(int station, int n, int what) {
        if (!is(station) || n < 0 || n > 100 || what < 0 || what > 3) {
            return -1;
        }
        State s = now.copy();
        for (int i = 0; i < n; i++) {
            s.pass(forced());
        }
        return s.stations.get(station).size(what);
    }

    int dry(int station) {
        if (!is(station)) {
            return -1;
        }
        State s = now.copy();
        for (int i = now.hour; i < now.hour + 200; i++) {
            s.pass(forced());
            if (s.stations.get(station).waiting > 0 && s.stations.get(station).stock.isEmpty()) {
                return i;
            }
        }
        return -2;
    }

    int served() {
        if (begin == null) {
            return -1;
        }
        State s = now.copy();
        for (int i = now.hour; i < now.hour + 200; i++) {
            s.pass(forced());
            if (s.sum(3) == 0) {
                return i;
            }
        }
        return -2;
    }

    int more(int from, int n, int what) {
        if (!is(from) || n < 1 || n > 60 || what < 0 || what > 1) {
            return -2;
        }
        int best = -1;
        int fewest = Integer.MAX_VALUE;
        for (int to = -1; to < now.stations.size(); to++) {
            if (to == from) {
                continue;
            }
            State s = now.copy();
            for (int i = 0; i < 5 && to >= 0 && !s.stations.get(from).stock.isEmpty(); i++) {
                s.stations.get(to).stock.add(s.stations.get(from).stock.pollLast());
            }
            for (int i = 0; i < n; i++) {
                s.pass(forced());
            }
            if (s.sum(3) < fewest) {
                fewest = s.sum(3);
                best = to;
            }
        }
        return what == 0 ? best : fewest;
    }

    private boolean noted(State start, List<Clause> rule) {
        List<int[]> boxes = new ArrayList<>();
        State s = start.copy();
        for (int h = 0; h <= 60; h++) {
            s.pass(rule);
            boxes.add(s.stations.stream().mapToInt(t -> t.box.size()).toArray());
        }
        return notes.stream().allMatch(n -> boxes.get(n[0])[n[1]] == n[2]);
    }

    int crowds(int station, int what) {
        if (!is(station) || what < 0 || what > 1) {
            return -1;
        }
        List<Integer> all = new ArrayList<>();
        for (int w = 0; w <= 60; w++) {
            State s = begin.copy();
            s.stations.get(station).waiting = w;
            if (noted(s, forced())) {
                all.add(w);
            }
        }
        return what == 0 ? all.size() : all.isEmpty() ? -2 : all.get(0);
    }

    int rests(int one, int other, int n, int what) {
        if (!two(one, other, 1) || n < 1 || n > 20 || what < 0 || what > 2) {
            return -1;
        }
        int[][][] gain = new int[4][4][2];
        for (int i = 0; i < 4; i++) {
            for (int j = 0; j < 4; j++) {
                State s = now.copy();
                Station a = s.stations.get(one);
                Station b = s.stations.get(other);
                int goes = Math.min(i, a.waiting);
                int comes = Math.min(j, b.waiting);
                a.waiting += comes - goes;
                b.waiting += goes - comes;
                for (int h = 0; h < n; h++) {
                    s.pass(forced());
                }
                gain[i][j][0] = 2 * (a.box.size() - at(one).box.size()) - a.waiting;
                gain[i][j][1] = 2 * (b.box.size() - at(other).box.size()) - b.waiting;
            }
        }
        List<int[]> rests = new ArrayList<>();
        for (int i = 0; i < 4; i++) {
            for (int j = 0; j < 4; j++) {
                boolean rest = true;
                for (int k = 0; k < 4; k++) {
                    rest &= gain[k][j][0] <= gain[i][j][0] && gain[i][k][1] <= gain[i][j][1];
                }
                if (rest) {
                    rests.add(new int[] {i, j});
                }
            }
        }
        return what == 0 ? rests.size() : rests.isEmpty() ? -2 : rests.get(0)[what - 1];
    }

    int pence(int much, int station) {
        if (!is(station) || much < 0 || much > 9999) {
            return -1;
        }
        int all = now.sum(1);
        if (all == 0) {
            return 0;
        }
        int n = now.stations.size();
        int[] part = new int[n];
        int[] lost = new int[n];
        int left = much;
        for (int i = 0; i < n; i++) {
            part[i] = much * at(i).box.size() / all;
            lost[i] = much * at(i).box.size() - part[i] * all;
            left -= part[i];
        }
        for (; left > 0; left--) {
            int most = 0;
            for (int i = 1; i < n; i++) {
                if (lost[i] > lost[most]) {
                    most = i;
                }
            }
            part[most]++;
            lost[most] = -1;
        }
        return part[station];
    }

    int note(int n, int station, int box) {
        if (n == -1) {
            notes.clear();
            return 0;
        }
        if (n < 0 || n > 60 || !is(station) || box < 0 || box > 60 || notes.size() == 10) {
            return -2;
        }
        notes.add(new int[] {n, station, box});
        return notes.size();
    }

    private List<Integer> ruledAll() {
        List<Integer> all = new ArrayList<>();
        for (int r = -1; r < rules.size(); r++) {
            if (noted(begin, r < 0 ? null : rules.get(r))) {
                all.add(r);
            }
        }
        return all;
    }

    int ruled(int what) {
        if (begin == null || what < 0 || what > 1) {
            return -3;
        }
        List<Integer> all = ruledAll();
        return what == 0 ? all.size() : all.isEmpty() ? -2 : all.get(0);
    }

    int look(int n, int what) {
        if (begin == null || n < 0 || n > 60 || what < 0 || what > 1) {
            return -1;
        }
        List<Integer> all = ruledAll();
        int best = -2;
        int fewest = Integer.MAX_VALUE;
        for (int station = 0; station < now.stations.size() && !all.isEmpty(); station++) {
            Map<Integer, Integer> alike = new TreeMap<>();
            for (int r : all) {
                State s = begin.copy();
                for (int h = 0; h <= n; h++) {
                    s.pass(r < 0 ? null : rules.get(r));
                }
                alike.merge(s.stations.get(station).box.size(), 1, Integer::sum);
            }
            int most = Collections.max(alike.values());
            if (most < fewest) {
                fewest = most;
                best = station;
            }
        }
        return best == -2 || what == 0 ? best : fewest;
    }

    int seed(int value) {
        if (value < 0) {
            return -1;
        }
        int was = x;
        x = value;
        return was;
    }

    int crowded(int m, int n, int p, int what) {
        if (begin == null || m < 1 || m > 10 || n < 1 || n > 60 || p < 0 || p > 100 || what < 0 || what > 1) {
            return -1;
        }
        long y = x;
        int sum = 0;
        for (int time = 0; time < m; time++) {
            State s = now.copy();
            for (int h = 0; h < n; h++) {
                y = (y * 1103515245L + 12345L) % 2147483648L;
                if (y / 65536 % 100 < p && !s.stations.isEmpty()) {
                    y = (y * 1103515245L + 12345L) % 2147483648L;
                    Station t = s.stations.get((int) (y / 65536 % s.stations.size()));
                    if (t.waiting < 99) {
                        t.waiting++;
                    }
                }
                s.pass(forced());
            }
            sum += s.sum(what == 0 ? 1 : 3);
        }
        return sum;
    }

    int count(int what) {
        switch (what) {
            case 0: return now.printed;
            case 1: return now.stations.size();
            case 2: return rules.size();
            case 3: return inForce;
            case 4: return now.hour;
            case 5: return now.sum(0);
            case 6: return now.sum(1);
            case 7: return now.sum(2);
            case 8: return now.sum(3);
            case 9:
                int bits = 0;
                for (int i = 0; i < now.stations.size(); i++) {
                    bits += at(i).can() ? 1 << i : 0;
                }
                return bits;
            case 10: return notes.size();
            case 11: return undo.size();
            case 12: return x;
            case 13: return tapeLength;
            default: return -1;
        }
    }

    int image(int k) {
        if (k < 0 || k > 3) {
            return -1;
        }
        Image i = new Image();
        i.now = now.copy();
        i.begin = begin;
        i.notes = new ArrayList<>(notes);
        i.x = x;
        i.force = inForce;
        images[k] = i;
        return now.hour;
    }

    int back(int k) {
        if (k < 0 || k > 3 || images[k] == null) {
            return -1;
        }
        Image i = images[k];
        now = i.now.copy();
        begin = i.begin;
        notes = new ArrayList<>(i.notes);
        x = i.x;
        inForce = i.force;
        undo.clear();
        return now.hour;
    }
}
