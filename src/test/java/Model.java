import java.util.ArrayDeque;
import java.util.ArrayList;
import java.util.HashMap;
import java.util.HashSet;
import java.util.List;
import java.util.Map;
import java.util.Set;
import java.util.TreeMap;
import java.util.TreeSet;

/**
 * The document read a second time, as plainly as can be: the whole graph is kept at each time, and nothing
 * but that is kept. The store is compared with it in {@link LikeModelTest}.
 */
final class Model {
    private record Arc(int from, int label, int to) {
    }

    private static final class Graph {
        final TreeMap<Integer, Integer> values = new TreeMap<>();
        final TreeMap<Integer, Arc> arcs = new TreeMap<>();
        final Set<Integer> touched = new HashSet<>();

        Graph next() {
            Graph g = new Graph();
            g.values.putAll(values);
            g.arcs.putAll(arcs);
            return g;
        }
    }

    private static final class Open {
        int begun;
        final TreeMap<Integer, Integer> values = new TreeMap<>();
        final List<Arc> added = new ArrayList<>();
        final TreeSet<Integer> dropped = new TreeSet<>();
    }

    private record Step(int kind, int label) {
    }

    private final List<Graph> times = new ArrayList<>(List.of(new Graph()));
    private final List<Integer> labels = new ArrayList<>();
    private final Map<Integer, Integer> places = new HashMap<>();
    private int arcsMade = 0;
    private final Set<Integer> keys = new HashSet<>();
    private final Map<Integer, int[]> shapes = new HashMap<>();
    private final Set<Integer> failed = new HashSet<>();
    private final Map<Integer, Open> opens = new TreeMap<>();
    private List<Step> draft = new ArrayList<>();
    private final List<List<Step>> patterns = new ArrayList<>();
    private final List<int[]> rules = new ArrayList<>();
    private final Map<Integer, Integer> marks = new HashMap<>();
    private Set<Integer> awake = new HashSet<>();

    private Graph graph() {
        return times.get(times.size() - 1);
    }

    private Graph nextTime() {
        Graph g = graph().next();
        times.add(g);
        return g;
    }

    private static void exists(boolean so) {
        if (!so) {
            throw new IndexOutOfBoundsException();
        }
    }

    private static void inRange(boolean so) {
        if (!so) {
            throw new IllegalArgumentException();
        }
    }

    private static void possible(boolean so) {
        if (!so) {
            throw new IllegalStateException();
        }
    }

    private static boolean label(int l) {
        return 0 <= l && l <= 3;
    }

    private static boolean place(int m) {
        return 0 <= m && m <= 2;
    }

    private boolean there(int n) {
        return graph().values.containsKey(n);
    }

    private boolean keysHold(Map<Integer, Integer> values, Set<Integer> ofLabels) {
        Set<List<Integer>> found = new HashSet<>();
        for (Map.Entry<Integer, Integer> e : values.entrySet()) {
            int l = labels.get(e.getKey());
            if (ofLabels.contains(l) && !found.add(List.of(l, e.getValue()))) {
                return false;
            }
        }
        return true;
    }

    private boolean shaped(Arc a, int[] shape) {
        return shape == null || labels.get(a.from) == shape[0] && labels.get(a.to) == shape[1];
    }

    private int load(int machine) {
        int n = 0;
        for (int node : graph().values.keySet()) {
            if (places.get(node) == machine) {
                n++;
            }
        }
        return n;
    }

    int node(int l, int value) {
        exists(label(l));
        possible(labels.size() < 24 && failed.size() < 3);
        int best = -1;
        for (int m = 2; m >= 0; m--) {
            if (!failed.contains(m) && (best < 0 || load(m) <= load(best))) {
                best = m;
            }
        }
        if (keys.contains(l)) {
            for (Map.Entry<Integer, Integer> e : graph().values.entrySet()) {
                possible(labels.get(e.getKey()) != l || e.getValue() != value);
            }
        }
        int number = labels.size();
        labels.add(l);
        places.put(number, best);
        Graph g = nextTime();
        g.values.put(number, value);
        g.touched.add(number);
        marks.put(number, number);
        awake.add(number);
        return number;
    }

    private void touch(Graph g, Arc a) {
        g.touched.add(a.from);
        g.touched.add(a.to);
    }

    int edge(int from, int l, int to) {
        exists(there(from) && there(to) && label(l));
        Arc a = new Arc(from, l, to);
        possible(arcsMade < 60 && shaped(a, shapes.get(l)));
        Graph g = nextTime();
        g.arcs.put(arcsMade, a);
        touch(g, a);
        awake.add(from);
        awake.add(to);
        return arcsMade++;
    }

    int set(int n, int value) {
        exists(there(n));
        TreeMap<Integer, Integer> then = new TreeMap<>(graph().values);
        then.put(n, value);
        possible(keysHold(then, keys));
        Graph g = nextTime();
        g.touched.add(n);
        return g.values.put(n, value);
    }

    private void allAnew() {
        awake = new HashSet<>(graph().values.keySet());
        for (int n : awake) {
            marks.put(n, n);
        }
    }

    int dropEdge(int e) {
        exists(graph().arcs.containsKey(e));
        Graph g = nextTime();
        touch(g, g.arcs.remove(e));
        allAnew();
        return times.size() - 1;
    }

    int dropNode(int n) {
        exists(there(n));
        Graph g = nextTime();
        int went = 0;
        for (int e : new ArrayList<>(g.arcs.keySet())) {
            Arc a = g.arcs.get(e);
            if (a.from == n || a.to == n) {
                touch(g, a);
                g.arcs.remove(e);
                went++;
            }
        }
        g.values.remove(n);
        g.touched.add(n);
        allAnew();
        return went;
    }

    boolean key(int l) {
        exists(label(l));
        if (keys.remove(l)) {
            return false;
        }
        possible(keysHold(graph().values, Set.of(l)));
        return keys.add(l);
    }

    void shape(int l, int from, int to) {
        exists(label(l) && (from == -1 || label(from) && label(to)));
        if (from == -1) {
            shapes.remove(l);
            return;
        }
        int[] shape = {from, to};
        for (Arc a : graph().arcs.values()) {
            possible(a.label != l || shaped(a, shape));
        }
        shapes.put(l, shape);
    }

    int move(int n, int m) {
        exists(there(n) && place(m));
        possible(!failed.contains(m) && !failed.contains(places.get(n)));
        return places.put(n, m);
    }

    int shift() {
        int before = cut();
        int fewest = Integer.MAX_VALUE;
        for (int m = 0; m < 3; m++) {
            if (!failed.contains(m)) {
                fewest = Math.min(fewest, load(m));
            }
        }
        int[] best = null;
        for (int n : graph().values.keySet()) {
            int home = places.get(n);
            for (int m = 0; m < 3; m++) {
                if (m == home || failed.contains(home) || failed.contains(m)) {
                    continue;
                }
                places.put(n, m);
                int fewer = before - cut();
                if (load(m) <= fewest + 2 && fewer > 0 && (best == null || fewer > best[0])) {
                    best = new int[] {fewer, n, m};
                }
                places.put(n, home);
            }
        }
        if (best == null) {
            return -1;
        }
        places.put(best[1], best[2]);
        return best[1];
    }

    boolean toggle(int m) {
        exists(place(m));
        if (failed.remove(m)) {
            return true;
        }
        failed.add(m);
        return false;
    }

    int machine(int n) {
        exists(there(n));
        return places.get(n);
    }

    private boolean isCut(Arc a) {
        return !places.get(a.from).equals(places.get(a.to));
    }

    int cut() {
        int n = 0;
        for (Arc a : graph().arcs.values()) {
            n += isCut(a) ? 1 : 0;
        }
        return n;
    }

    int copies(int m) {
        exists(place(m));
        Set<Integer> found = new HashSet<>();
        for (Arc a : graph().arcs.values()) {
            if (places.get(a.from) == m && places.get(a.to) != m) {
                found.add(a.to);
            }
            if (places.get(a.to) == m && places.get(a.from) != m) {
                found.add(a.from);
            }
        }
        return found.size();
    }

    int begin() {
        possible(opens.size() < 4);
        int number = 0;
        while (opens.containsKey(number)) {
            number++;
        }
        Open o = new Open();
        o.begun = times.size() - 1;
        opens.put(number, o);
        return number;
    }

    private Graph snapshot(int transaction) {
        exists(opens.containsKey(transaction));
        return times.get(opens.get(transaction).begun);
    }

    void write(int transaction, int n, int value) {
        exists(snapshot(transaction).values.containsKey(n));
        opens.get(transaction).values.put(n, value);
    }

    int link(int transaction, int from, int l, int to) {
        Map<Integer, Integer> seen = snapshot(transaction).values;
        exists(seen.containsKey(from) && seen.containsKey(to) && label(l));
        List<Arc> added = opens.get(transaction).added;
        possible(added.size() != 8);
        added.add(new Arc(from, l, to));
        return added.size();
    }

    void unlink(int transaction, int e) {
        exists(snapshot(transaction).arcs.containsKey(e));
        exists(opens.get(transaction).dropped.add(e));
    }

    int read(int transaction, int n) {
        exists(snapshot(transaction).values.containsKey(n));
        Integer own = opens.get(transaction).values.get(n);
        return own == null ? snapshot(transaction).values.get(n) : own;
    }

    int sees(int transaction, int n) {
        exists(snapshot(transaction).values.containsKey(n));
        TreeMap<Integer, Arc> seen = new TreeMap<>(snapshot(transaction).arcs);
        seen.keySet().removeAll(opens.get(transaction).dropped);
        List<Arc> all = new ArrayList<>(seen.values());
        all.addAll(opens.get(transaction).added);
        all.removeIf(a -> a.from != n);
        return all.size();
    }

    int commit(int transaction, boolean isWanted) {
        exists(opens.containsKey(transaction));
        Graph seen = snapshot(transaction);
        Open o = opens.remove(transaction);
        if (!isWanted || o.values.isEmpty() && o.added.isEmpty() && o.dropped.isEmpty()) {
            return times.size() - 1;
        }
        Graph g = graph().next();
        g.touched.addAll(o.values.keySet());
        for (Arc a : o.added) {
            touch(g, a);
        }
        for (int e : o.dropped) {
            touch(g, seen.arcs.get(e));
        }
        for (int t = o.begun + 1; t < times.size(); t++) {
            for (int n : times.get(t).touched) {
                if (g.touched.contains(n)) {
                    return -1;
                }
            }
        }
        g.values.putAll(o.values);
        g.arcs.keySet().removeAll(o.dropped);
        int number = arcsMade;
        for (Arc a : o.added) {
            g.arcs.put(number++, a);
            if (!shaped(a, shapes.get(a.label))) {
                return -2;
            }
        }
        if (number > 60 || !keysHold(g.values, keys)) {
            return -2;
        }
        arcsMade = number;
        times.add(g);
        for (Arc a : o.added) {
            awake.add(a.from);
            awake.add(a.to);
        }
        if (!o.dropped.isEmpty()) {
            allAnew();
        }
        return times.size() - 1;
    }

    int time() {
        return times.size() - 1;
    }

    int valueAt(int n, int t) {
        inRange(0 <= t && t < times.size());
        exists(times.get(t).values.containsKey(n));
        return times.get(t).values.get(n);
    }

    int sizeAt(int t) {
        inRange(0 <= t && t < times.size());
        return 100 * times.get(t).values.size() + times.get(t).arcs.size();
    }

    private static int height(List<Step> steps) {
        int h = 0;
        for (Step s : steps) {
            h += s.kind <= 2 ? 1 : s.kind <= 4 ? -1 : 0;
        }
        return h;
    }

    int step(int kind, int l) {
        inRange(0 <= kind && kind <= 5);
        exists(kind >= 3 || label(l));
        inRange(kind < 3 || l == 0);
        int h = height(draft);
        possible(draft.size() < 12 && h >= (kind <= 2 ? 0 : kind <= 4 ? 2 : 1));
        draft.add(new Step(kind, l));
        return height(draft);
    }

    int pattern() {
        possible(height(draft) == 1 && patterns.size() < 6);
        patterns.add(draft);
        draft = new ArrayList<>();
        return patterns.size() - 1;
    }

    /** All edges, told and inferred: found by a list of what is still to be joined with all others. */
    private Set<Arc> known() {
        Set<Arc> known = new HashSet<>();
        ArrayDeque<Arc> open = new ArrayDeque<>(new HashSet<>(graph().arcs.values()));
        known.addAll(open);
        while (!open.isEmpty()) {
            Arc a = open.remove();
            List<Arc> found = new ArrayList<>();
            for (Arc b : known) {
                for (int[] r : rules) {
                    if (r != null && a.label == r[0] && b.label == r[1] && a.to == b.from) {
                        found.add(new Arc(a.from, r[2], b.to));
                    }
                    if (r != null && b.label == r[0] && a.label == r[1] && b.to == a.from) {
                        found.add(new Arc(b.from, r[2], a.to));
                    }
                }
            }
            for (Arc c : found) {
                if (known.add(c)) {
                    open.add(c);
                }
            }
        }
        return known;
    }

    private Set<Integer> reachable() {
        Set<Integer> found = new TreeSet<>(graph().values.keySet());
        found.removeIf(n -> failed.contains(places.get(n)));
        return found;
    }

    /** The relation of a pattern within a set of nodes, as pairs 24 * from + to. */
    private Set<Integer> relation(int pattern, Set<Integer> within) {
        ArrayDeque<Set<Integer>> stack = new ArrayDeque<>();
        Set<Arc> known = known();
        for (Step s : patterns.get(pattern)) {
            Set<Integer> made = new HashSet<>();
            if (s.kind == 0 || s.kind == 1) {
                for (Arc a : known) {
                    if (a.label == s.label && within.contains(a.from) && within.contains(a.to)) {
                        made.add(s.kind == 0 ? 24 * a.from + a.to : 24 * a.to + a.from);
                    }
                }
            } else if (s.kind == 2) {
                for (int n : within) {
                    if (labels.get(n) == s.label) {
                        made.add(24 * n + n);
                    }
                }
            } else if (s.kind == 5) {
                Set<Integer> one = stack.pop();
                for (int n : within) {
                    made.add(24 * n + n);
                }
                int size;
                do {
                    size = made.size();
                    made.addAll(behind(made, one));
                } while (made.size() > size);
            } else {
                Set<Integer> second = stack.pop();
                Set<Integer> first = stack.pop();
                if (s.kind == 3) {
                    made.addAll(behind(first, second));
                } else {
                    made.addAll(first);
                    made.addAll(second);
                }
            }
            stack.push(made);
        }
        return stack.pop();
    }

    private static Set<Integer> behind(Set<Integer> first, Set<Integer> second) {
        Set<Integer> made = new HashSet<>();
        for (int p : first) {
            for (int n = 0; n < 24; n++) {
                if (second.contains(24 * (p % 24) + n)) {
                    made.add(24 * (p / 24) + n);
                }
            }
        }
        return made;
    }

    private static int row(Set<Integer> relation, int n) {
        int row = 0;
        for (int p : relation) {
            if (p / 24 == n) {
                row |= 1 << p % 24;
            }
        }
        return row;
    }

    int answer(int pattern, int n) {
        exists(0 <= pattern && pattern < patterns.size() && there(n));
        return row(relation(pattern, reachable()), n);
    }

    int answerAnew(int pattern, int n) {
        return answer(pattern, n);
    }

    int pairs(int pattern) {
        exists(0 <= pattern && pattern < patterns.size());
        return relation(pattern, reachable()).size();
    }

    boolean isWhole(int pattern, int n) {
        exists(0 <= pattern && pattern < patterns.size() && there(n));
        return answer(pattern, n) == row(relation(pattern, graph().values.keySet()), n);
    }

    int rule(int a, int b, int c) {
        exists(label(a) && label(b) && label(c));
        possible(rules.size() < 6);
        rules.add(new int[] {a, b, c});
        return rules.size() - 1;
    }

    int dropRule(int r) {
        exists(0 <= r && r < rules.size() && rules.get(r) != null);
        Set<Arc> before = known();
        rules.set(r, null);
        before.removeAll(known());
        before.removeAll(graph().arcs.values());
        return before.size();
    }

    int inferred() {
        Set<Arc> found = known();
        found.removeAll(graph().arcs.values());
        return found.size();
    }

    int reasons(int from, int l, int to) {
        exists(there(from) && there(to) && label(l));
        int n = 0;
        for (Arc a : graph().arcs.values()) {
            n += a.equals(new Arc(from, l, to)) ? 1 : 0;
        }
        Set<Arc> known = known();
        for (int[] r : rules) {
            for (int y = 0; y < 24; y++) {
                if (r != null && r[2] == l && known.contains(new Arc(from, r[0], y))
                        && known.contains(new Arc(y, r[1], to))) {
                    n++;
                }
            }
        }
        return n;
    }

    /** The fewest steps to each node to which a walk comes. */
    private Map<Integer, Integer> distances(int n) {
        Map<Integer, Integer> found = new HashMap<>();
        Set<Integer> up = reachable();
        ArrayDeque<Integer> open = new ArrayDeque<>();
        if (up.contains(n)) {
            found.put(n, 0);
            open.add(n);
        }
        while (!open.isEmpty()) {
            int here = open.remove();
            for (Arc a : graph().arcs.values()) {
                if (a.from == here && up.contains(a.to) && !found.containsKey(a.to)) {
                    found.put(a.to, found.get(here) + 1);
                    open.add(a.to);
                }
            }
        }
        return found;
    }

    int walk(int n, int steps) {
        exists(there(n));
        inRange(0 <= steps && steps <= 30);
        int found = 0;
        for (Map.Entry<Integer, Integer> e : distances(n).entrySet()) {
            found |= e.getValue() <= steps ? 1 << e.getKey() : 0;
        }
        return found;
    }

    int crossings(int n, int steps) {
        exists(there(n));
        inRange(0 <= steps && steps <= 30);
        Map<Integer, Integer> distances = distances(n);
        int found = 0;
        for (Arc a : graph().arcs.values()) {
            Integer d = distances.get(a.from);
            found += d != null && d < steps && isCut(a) ? 1 : 0;
        }
        return found;
    }

    int round(int rounds) {
        inRange(1 <= rounds && rounds <= 30);
        for (int i = 0; i < rounds; i++) {
            Map<Integer, Integer> got = new HashMap<>();
            for (Arc a : graph().arcs.values()) {
                if (awake.contains(a.from)) {
                    got.merge(a.to, marks.get(a.from), Math::min);
                }
                if (awake.contains(a.to)) {
                    got.merge(a.from, marks.get(a.to), Math::min);
                }
            }
            awake = new HashSet<>();
            for (Map.Entry<Integer, Integer> e : got.entrySet()) {
                if (e.getValue() < marks.get(e.getKey())) {
                    marks.put(e.getKey(), e.getValue());
                    awake.add(e.getKey());
                }
            }
        }
        return awake.size();
    }

    int mark(int n) {
        exists(there(n));
        return marks.get(n);
    }

    int least(int n) {
        exists(there(n));
        TreeSet<Integer> found = new TreeSet<>(Set.of(n));
        int size;
        do {
            size = found.size();
            for (Arc a : graph().arcs.values()) {
                if (found.contains(a.from) || found.contains(a.to)) {
                    found.add(a.from);
                    found.add(a.to);
                }
            }
        } while (found.size() > size);
        return found.first();
    }
}
