/**
 * A graph over many machines, with transactions, patterns, rules and its whole past.
 * The promises it keeps are those of the project's document.
 */
public final class WeftStore {

    public static final int NONE = -1;
    public static final int EDGE = 0, BACK = 1, NODE = 2, JOIN = 3, EITHER = 4, MANY = 5;

    private static final int NODES = 24;
    private static final int EDGES = 60;
    private static final int LABELS = 4;
    private static final int MACHINES = 3;
    private static final int TRANSACTIONS = 4;
    private static final int LINKS = 8;
    private static final int STEPS = 12;
    private static final int PATTERNS = 6;
    private static final int RULES = 6;
    private static final int CALLS = 512;
    private static final int FARTHEST = 30;
    private static final int SPREAD = 2;
    private static final int CLASH = -1;
    private static final int BROKEN = -2;
    private static final int NEVER = 0x7fffffff;

    private final Nodes nodes;
    private final Edges edges;
    private final Laws laws;
    private final Machines machines;
    private final Facts facts;
    private final Matcher matcher;
    private final Marks marks;
    private final Transaction[] transactions;
    private final Pattern[] patterns;
    private final int[] wishes;
    private int patternCount = 0;
    private int now = 0;

    public WeftStore() {
        nodes = new Nodes();
        edges = new Edges();
        laws = new Laws(nodes);
        machines = new Machines(nodes, edges);
        facts = new Facts(edges);
        matcher = new Matcher(nodes, facts);
        marks = new Marks(edges);
        transactions = new Transaction[TRANSACTIONS];
        for (int i = 0; i < TRANSACTIONS; i++) {
            transactions[i] = new Transaction();
        }
        // One more than there can be: the one behind the last pattern is the draft.
        patterns = new Pattern[PATTERNS + 1];
        for (int i = 0; i <= PATTERNS; i++) {
            patterns[i] = new Pattern();
        }
        wishes = new int[NODES];
    }

    // ---- writes

    public int node(int label, int value) throws IndexOutOfBoundsException, IllegalStateException {
        requireLabel(label);
        if (nodes.count >= NODES) {
            throw new IllegalStateException("there were 24 nodes");
        }
        int host = machines.emptiest();
        if (host == NONE) {
            throw new IllegalStateException("no machine is up");
        }
        if (laws.isTaken(label, value, NONE)) {
            throw new IllegalStateException("a key would be broken");
        }
        now++;
        int node = nodes.add(label, value, now);
        machines.host[node] = host;
        marks.comeTo(node);
        return node;
    }

    public int edge(int from, int label, int to) throws IndexOutOfBoundsException, IllegalStateException {
        requireNode(from);
        requireNode(to);
        requireLabel(label);
        if (edges.count >= EDGES) {
            throw new IllegalStateException("there were 60 edges");
        }
        if (!laws.isAllowed(from, label, to)) {
            throw new IllegalStateException("a shape would be broken");
        }
        now++;
        int edge = addEdge(from, label, to);
        facts.inferAnew();
        return edge;
    }

    public int set(int node, int value) throws IndexOutOfBoundsException, IllegalStateException {
        requireNode(node);
        if (laws.isTaken(nodes.label[node], value, node)) {
            throw new IllegalStateException("a key would be broken");
        }
        int before = nodes.value[node];
        now++;
        nodes.put(node, value, now);
        return before;
    }

    public int dropEdge(int edge) throws IndexOutOfBoundsException {
        requireEdge(edge);
        now++;
        endEdge(edge);
        startAnew();
        return now;
    }

    public int dropNode(int node) throws IndexOutOfBoundsException {
        requireNode(node);
        now++;
        int ended = 0;
        for (int e = 0; e < edges.count; e++) {
            if (edges.isThere(e) && (edges.from[e] == node || edges.to[e] == node)) {
                endEdge(e);
                ended++;
            }
        }
        nodes.leave(node, now);
        startAnew();
        return ended;
    }

    public boolean key(int label) throws IndexOutOfBoundsException, IllegalStateException {
        requireLabel(label);
        if (!laws.hasKey[label] && laws.hasTwins(label, nodes.value)) {
            throw new IllegalStateException("two nodes have the same value");
        }
        laws.hasKey[label] = !laws.hasKey[label];
        return laws.hasKey[label];
    }

    public void shape(int label, int from, int to) throws IndexOutOfBoundsException, IllegalStateException {
        requireLabel(label);
        if (from == NONE) {
            laws.shapeFrom[label] = NONE;
            return;
        }
        requireLabel(from);
        requireLabel(to);
        if (!areShaped(label, from, to)) {
            throw new IllegalStateException("an edge is not so");
        }
        laws.shapeFrom[label] = from;
        laws.shapeTo[label] = to;
    }

    // ---- machines

    public int move(int node, int machine) throws IndexOutOfBoundsException, IllegalStateException {
        requireNode(node);
        requireMachine(machine);
        int before = machines.host[node];
        if (!machines.isUp[before] || !machines.isUp[machine]) {
            throw new IllegalStateException("a machine is not up");
        }
        machines.host[node] = machine;
        return before;
    }

    public int shift() {
        return machines.moveBest();
    }

    public boolean toggle(int machine) throws IndexOutOfBoundsException {
        requireMachine(machine);
        machines.isUp[machine] = !machines.isUp[machine];
        return machines.isUp[machine];
    }

    public int machine(int node) throws IndexOutOfBoundsException {
        requireNode(node);
        return machines.host[node];
    }

    public int cut() {
        int found = 0;
        for (int e = 0; e < edges.count; e++) {
            if (edges.isThere(e) && machines.isCut(e)) {
                found++;
            }
        }
        return found;
    }

    public int copies(int machine) throws IndexOutOfBoundsException {
        requireMachine(machine);
        return Integer.bitCount(machines.copied(machine));
    }

    // ---- transactions

    public int begin() throws IllegalStateException {
        for (int i = 0; i < TRANSACTIONS; i++) {
            if (!transactions[i].isOpen) {
                transactions[i].openAt(now);
                return i;
            }
        }
        throw new IllegalStateException("4 transactions are open");
    }

    public void write(int transaction, int node, int value) throws IndexOutOfBoundsException {
        requireSeen(transaction, node);
        transactions[transaction].putValue(node, value);
    }

    public int link(int transaction, int from, int label, int to)
            throws IndexOutOfBoundsException, IllegalStateException {
        requireSeen(transaction, from);
        requireSeen(transaction, to);
        requireLabel(label);
        Transaction t = transactions[transaction];
        if (t.links >= LINKS) {
            throw new IllegalStateException("it adds 8 edges");
        }
        t.putLink(from, label, to);
        return t.links;
    }

    public void unlink(int transaction, int edge) throws IndexOutOfBoundsException {
        requireTransaction(transaction);
        Transaction t = transactions[transaction];
        if (!edges.wasThere(edge, t.begun) || t.drops(edge)) {
            throw new IndexOutOfBoundsException("no such edge");
        }
        t.putDrop(edge);
    }

    public int read(int transaction, int node) throws IndexOutOfBoundsException {
        requireSeen(transaction, node);
        Transaction t = transactions[transaction];
        return has(t.written, node) ? t.value[node] : nodes.valueAsOf(node, t.begun);
    }

    public int sees(int transaction, int node) throws IndexOutOfBoundsException {
        requireSeen(transaction, node);
        Transaction t = transactions[transaction];
        int found = t.linksFrom(node);
        for (int e = 0; e < edges.count; e++) {
            if (edges.wasThere(e, t.begun) && edges.from[e] == node && !t.drops(e)) {
                found++;
            }
        }
        return found;
    }

    public int commit(int transaction, boolean isWanted) throws IndexOutOfBoundsException {
        requireTransaction(transaction);
        Transaction t = transactions[transaction];
        t.isOpen = false;
        if (!isWanted || !t.hasWrites()) {
            return now;
        }
        if (clashes(t)) {
            return CLASH;
        }
        if (breaksLaws(t)) {
            return BROKEN;
        }
        writeAll(t);
        return now;
    }

    // ---- time

    public int time() {
        return now;
    }

    public int valueAt(int node, int time) throws IndexOutOfBoundsException, IllegalArgumentException {
        requireTime(time);
        if (!nodes.wasThere(node, time)) {
            throw new IndexOutOfBoundsException("no such node then");
        }
        return nodes.valueAsOf(node, time);
    }

    public int sizeAt(int time) throws IllegalArgumentException {
        requireTime(time);
        return 100 * nodes.countAsOf(time) + edges.countAsOf(time);
    }

    // ---- patterns, rules, walks

    public int step(int kind, int l) throws IndexOutOfBoundsException, IllegalArgumentException, IllegalStateException {
        if (kind < EDGE || kind > MANY) {
            throw new IllegalArgumentException("no such kind of step");
        }
        if (kind <= NODE) {
            requireLabel(l);
        } else if (l != 0) {
            throw new IllegalArgumentException("a step without a label takes 0");
        }
        Pattern draft = patterns[patternCount];
        if (draft.count >= STEPS) {
            throw new IllegalStateException("there are 12 steps");
        }
        if (draft.height < Pattern.taken(kind)) {
            throw new IllegalStateException("the stack has too few relations");
        }
        draft.put(kind, l);
        return draft.height;
    }

    public int pattern() throws IllegalStateException {
        if (patternCount >= PATTERNS) {
            throw new IllegalStateException("there are 6 patterns");
        }
        if (patterns[patternCount].height != 1) {
            throw new IllegalStateException("the stack does not have just one relation");
        }
        return patternCount++;
    }

    public int answer(int pattern, int node) throws IndexOutOfBoundsException {
        requirePattern(pattern);
        requireNode(node);
        return matcher.relate(patterns[pattern], machines.reachable())[node];
    }

    public int answerAnew(int pattern, int node) throws IndexOutOfBoundsException {
        requirePattern(pattern);
        requireNode(node);
        return matcher.goOn(patterns[pattern], node, machines.reachable());
    }

    public int pairs(int pattern) throws IndexOutOfBoundsException {
        requirePattern(pattern);
        int[] relation = matcher.relate(patterns[pattern], machines.reachable());
        int found = 0;
        for (int n = 0; n < NODES; n++) {
            found += Integer.bitCount(relation[n]);
        }
        return found;
    }

    public boolean isWhole(int pattern, int node) throws IndexOutOfBoundsException {
        requirePattern(pattern);
        requireNode(node);
        int known = matcher.relate(patterns[pattern], machines.reachable())[node];
        int whole = matcher.relate(patterns[pattern], nodes.there)[node];
        return known == whole;
    }

    public int rule(int a, int b, int c) throws IndexOutOfBoundsException, IllegalStateException {
        requireLabel(a);
        requireLabel(b);
        requireLabel(c);
        if (facts.rules >= RULES) {
            throw new IllegalStateException("there were 6 rules");
        }
        int rule = facts.addRule(a, b, c);
        facts.inferAnew();
        return rule;
    }

    public int dropRule(int rule) throws IndexOutOfBoundsException {
        if (rule < 0 || rule >= facts.rules || facts.isDropped[rule]) {
            throw new IndexOutOfBoundsException("no such rule");
        }
        int before = facts.countInferred();
        facts.isDropped[rule] = true;
        facts.inferAnew();
        return before - facts.countInferred();
    }

    public int inferred() {
        return facts.countInferred();
    }

    public int reasons(int from, int label, int to) throws IndexOutOfBoundsException {
        requireNode(from);
        requireNode(to);
        requireLabel(label);
        return edges.countLike(from, label, to) + facts.countWays(from, label, to);
    }

    public int walk(int node, int steps) throws IndexOutOfBoundsException, IllegalArgumentException {
        requireNode(node);
        requireSteps(steps);
        return walkedFrom(node, steps);
    }

    public int crossings(int node, int steps) throws IndexOutOfBoundsException, IllegalArgumentException {
        requireNode(node);
        requireSteps(steps);
        if (steps == 0) {
            return 0;
        }
        int left = walkedFrom(node, steps - 1);
        int found = 0;
        for (int e = 0; e < edges.count; e++) {
            if (edges.isThere(e) && has(left, edges.from[e]) && machines.isCut(e)) {
                found++;
            }
        }
        return found;
    }

    // ---- rounds

    public int round(int rounds) throws IllegalArgumentException {
        if (rounds < 1 || rounds > FARTHEST) {
            throw new IllegalArgumentException("rounds are 1 to 30");
        }
        for (int i = 0; i < rounds && marks.awake != 0; i++) {
            marks.sendAll();
        }
        return Integer.bitCount(marks.awake);
    }

    public int mark(int node) throws IndexOutOfBoundsException {
        requireNode(node);
        return marks.mark[node];
    }

    public int least(int node) throws IndexOutOfBoundsException {
        requireNode(node);
        int found = bit(node);
        for (int i = 0; i < NODES; i++) {
            found |= edges.neighbours(found);
        }
        return lowest(found);
    }

    // ---- what a call asks for

    private static void requireLabel(int label) {
        if (label < 0 || label >= LABELS) {
            throw new IndexOutOfBoundsException("no such label");
        }
    }

    private void requireNode(int node) {
        if (!nodes.isThere(node)) {
            throw new IndexOutOfBoundsException("no such node");
        }
    }

    private void requireEdge(int edge) {
        if (!edges.isThere(edge)) {
            throw new IndexOutOfBoundsException("no such edge");
        }
    }

    private static void requireMachine(int machine) {
        if (machine < 0 || machine >= MACHINES) {
            throw new IndexOutOfBoundsException("no such machine");
        }
    }

    private void requireTransaction(int transaction) {
        if (transaction < 0 || transaction >= TRANSACTIONS || !transactions[transaction].isOpen) {
            throw new IndexOutOfBoundsException("no such transaction");
        }
    }

    private void requireSeen(int transaction, int node) {
        requireTransaction(transaction);
        if (!nodes.wasThere(node, transactions[transaction].begun)) {
            throw new IndexOutOfBoundsException("no such node in the transaction");
        }
    }

    private void requirePattern(int pattern) {
        if (pattern < 0 || pattern >= patternCount) {
            throw new IndexOutOfBoundsException("no such pattern");
        }
    }

    private void requireTime(int when) {
        if (when < 0 || when > now) {
            throw new IllegalArgumentException("time is 0 to now");
        }
    }

    private static void requireSteps(int steps) {
        if (steps < 0 || steps > FARTHEST) {
            throw new IllegalArgumentException("steps are 0 to 30");
        }
    }

    // ---- parts of the calls

    private int addEdge(int from, int label, int to) {
        int edge = edges.add(from, label, to, now);
        nodes.touched[from] = now;
        nodes.touched[to] = now;
        marks.awake |= bit(from) | bit(to);
        return edge;
    }

    private void endEdge(int edge) {
        edges.end(edge, now);
        nodes.touched[edges.from[edge]] = now;
        nodes.touched[edges.to[edge]] = now;
    }

    private void startAnew() {
        marks.startAnew(nodes.there);
        facts.inferAnew();
    }

    private boolean areShaped(int label, int from, int to) {
        for (int e = 0; e < edges.count; e++) {
            if (edges.isThere(e) && edges.label[e] == label
                    && (nodes.label[edges.from[e]] != from || nodes.label[edges.to[e]] != to)) {
                return false;
            }
        }
        return true;
    }

    private boolean clashes(Transaction t) {
        int touching = t.touching(edges);
        for (int n = 0; n < nodes.count; n++) {
            if (has(touching, n) && (nodes.touched[n] > t.begun || !nodes.isThere(n))) {
                return true;
            }
        }
        return false;
    }

    private boolean breaksLaws(Transaction t) {
        return edges.count + t.links > EDGES || breaksShape(t) || breaksKey(t);
    }

    private boolean breaksShape(Transaction t) {
        for (int i = 0; i < t.links; i++) {
            if (!laws.isAllowed(t.from[i], t.label[i], t.to[i])) {
                return true;
            }
        }
        return false;
    }

    private boolean breaksKey(Transaction t) {
        for (int n = 0; n < nodes.count; n++) {
            wishes[n] = has(t.written, n) ? t.value[n] : nodes.value[n];
        }
        for (int label = 0; label < LABELS; label++) {
            if (laws.hasKey[label] && laws.hasTwins(label, wishes)) {
                return true;
            }
        }
        return false;
    }

    private void writeAll(Transaction t) {
        now++;
        for (int n = 0; n < nodes.count; n++) {
            if (has(t.written, n)) {
                nodes.put(n, t.value[n], now);
            }
        }
        for (int e = 0; e < edges.count; e++) {
            if (t.drops(e)) {
                endEdge(e);
            }
        }
        for (int i = 0; i < t.links; i++) {
            addEdge(t.from[i], t.label[i], t.to[i]);
        }
        if (t.dropped != 0) {
            marks.startAnew(nodes.there);
        }
        facts.inferAnew();
    }

    private int walkedFrom(int node, int steps) {
        int reachable = machines.reachable();
        int found = bit(node) & reachable;
        for (int i = 0; i < steps; i++) {
            found |= edges.onward(found) & reachable;
        }
        return found;
    }

    // ---- sets of nodes: bit n for the node n

    private static int bit(int node) {
        return 1 << node;
    }

    private static boolean has(int nodesInSet, int node) {
        return (nodesInSet >>> node & 1) != 0;
    }

    private static int lowest(int nodesInSet) {
        for (int n = 0; n < NODES; n++) {
            if (has(nodesInSet, n)) {
                return n;
            }
        }
        return NONE;
    }

    /** Things by their numbers, each with the time since which it is there and the one since which it is gone. */
    private abstract static class Past {
        // Long enough for edges, of which there can be more than nodes.
        final int[] born = new int[EDGES];
        final int[] gone = new int[EDGES];
        int count = 0;

        boolean isThere(int number) {
            return number >= 0 && number < count && gone[number] == NEVER;
        }

        boolean wasThere(int number, int when) {
            return number >= 0 && number < count && born[number] <= when && when < gone[number];
        }

        int come(int when) {
            int number = count;
            count++;
            born[number] = when;
            gone[number] = NEVER;
            return number;
        }

        void end(int number, int when) {
            gone[number] = when;
        }

        int countAsOf(int when) {
            int found = 0;
            for (int i = 0; i < count; i++) {
                if (wasThere(i, when)) {
                    found++;
                }
            }
            return found;
        }
    }

    /** The nodes of all times, and every value that was written. */
    private static final class Nodes extends Past {
        final int[] label = new int[NODES];
        final int[] value = new int[NODES];
        final int[] touched = new int[NODES];
        // No call writes more values than calls ahead of it asked for, so there are at most CALLS.
        final int[] pastNode = new int[CALLS];
        final int[] pastValue = new int[CALLS];
        final int[] pastTime = new int[CALLS];
        int past = 0;
        int there = 0;

        int add(int newLabel, int newValue, int when) {
            int node = come(when);
            label[node] = newLabel;
            there |= bit(node);
            put(node, newValue, when);
            return node;
        }

        void put(int node, int newValue, int when) {
            value[node] = newValue;
            touched[node] = when;
            if (past < CALLS) {
                pastNode[past] = node;
                pastValue[past] = newValue;
                pastTime[past] = when;
                past++;
            }
        }

        void leave(int node, int when) {
            end(node, when);
            touched[node] = when;
            there &= ~bit(node);
        }

        int valueAsOf(int node, int when) {
            for (int i = past - 1; i >= 0; i--) {
                if (pastNode[i] == node && pastTime[i] <= when) {
                    return pastValue[i];
                }
            }
            return value[node];
        }

        int labelled(int wanted) {
            int found = 0;
            for (int n = 0; n < count; n++) {
                if (isThere(n) && label[n] == wanted) {
                    found |= bit(n);
                }
            }
            return found;
        }
    }

    /** The told edges of all times. */
    private static final class Edges extends Past {
        final int[] from = new int[EDGES];
        final int[] label = new int[EDGES];
        final int[] to = new int[EDGES];

        int add(int source, int newLabel, int target, int when) {
            int edge = come(when);
            from[edge] = source;
            label[edge] = newLabel;
            to[edge] = target;
            return edge;
        }

        int countLike(int source, int wanted, int target) {
            int found = 0;
            for (int e = 0; e < count; e++) {
                if (isThere(e) && from[e] == source && label[e] == wanted && to[e] == target) {
                    found++;
                }
            }
            return found;
        }

        int onward(int sources) {
            int found = 0;
            for (int e = 0; e < count; e++) {
                if (isThere(e) && has(sources, from[e])) {
                    found |= bit(to[e]);
                }
            }
            return found;
        }

        int neighbours(int ends) {
            int found = onward(ends);
            for (int e = 0; e < count; e++) {
                if (isThere(e) && has(ends, to[e])) {
                    found |= bit(from[e]);
                }
            }
            return found;
        }
    }

    /** Keys of labels of nodes and shapes of labels of edges. */
    private static final class Laws {
        final Nodes nodes;
        final boolean[] hasKey = new boolean[LABELS];
        final int[] shapeFrom = new int[LABELS];
        final int[] shapeTo = new int[LABELS];

        Laws(Nodes nodes) {
            this.nodes = nodes;
            for (int label = 0; label < LABELS; label++) {
                shapeFrom[label] = NONE;
            }
        }

        boolean isTaken(int label, int value, int except) {
            if (!hasKey[label]) {
                return false;
            }
            for (int n = 0; n < nodes.count; n++) {
                if (n != except && nodes.isThere(n) && nodes.label[n] == label && nodes.value[n] == value) {
                    return true;
                }
            }
            return false;
        }

        boolean hasTwins(int label, int[] values) {
            int labelled = nodes.labelled(label);
            for (int n = 0; n < NODES && n < values.length; n++) {
                for (int m = 0; m < n; m++) {
                    if (has(labelled, n) && has(labelled, m) && values[n] == values[m]) {
                        return true;
                    }
                }
            }
            return false;
        }

        boolean isAllowed(int from, int label, int to) {
            return shapeFrom[label] == NONE
                    || nodes.label[from] == shapeFrom[label] && nodes.label[to] == shapeTo[label];
        }
    }

    /** Which machine a node is on, and which machines are up. */
    private static final class Machines {
        final Nodes nodes;
        final Edges edges;
        final int[] host = new int[NODES];
        final boolean[] isUp = new boolean[MACHINES];

        Machines(Nodes nodes, Edges edges) {
            this.nodes = nodes;
            this.edges = edges;
            for (int m = 0; m < MACHINES; m++) {
                isUp[m] = true;
            }
        }

        int load(int machine) {
            int found = 0;
            for (int n = 0; n < nodes.count; n++) {
                if (nodes.isThere(n) && host[n] == machine) {
                    found++;
                }
            }
            return found;
        }

        int emptiest() {
            int best = NONE;
            int fewest = NODES + 1;
            for (int m = 0; m < MACHINES; m++) {
                int here = load(m);
                if (isUp[m] && here < fewest) {
                    best = m;
                    fewest = here;
                }
            }
            return best;
        }

        int reachable() {
            int found = 0;
            for (int n = 0; n < nodes.count; n++) {
                if (nodes.isThere(n) && isUp[host[n]]) {
                    found |= bit(n);
                }
            }
            return found;
        }

        boolean isCut(int edge) {
            return host[edges.from[edge]] != host[edges.to[edge]];
        }

        int copied(int machine) {
            int found = 0;
            for (int e = 0; e < edges.count; e++) {
                if (edges.isThere(e) && isCut(e)) {
                    int from = edges.from[e];
                    int to = edges.to[e];
                    if (host[from] == machine) {
                        found |= bit(to);
                    }
                    if (host[to] == machine) {
                        found |= bit(from);
                    }
                }
            }
            return found;
        }

        int moveBest() {
            int emptiest = emptiest();
            if (emptiest == NONE) {
                return NONE;
            }
            int most = load(emptiest) + SPREAD;
            int movable = reachable();
            int bestNode = NONE;
            int bestMachine = NONE;
            int bestGain = 0;
            for (int n = 0; n < nodes.count; n++) {
                for (int m = 0; m < MACHINES; m++) {
                    boolean isFree = has(movable, n) && isUp[m] && m != host[n] && load(m) + 1 <= most;
                    int gain = isFree ? cutFewer(n, m) : 0;
                    if (gain > bestGain) {
                        bestNode = n;
                        bestMachine = m;
                        bestGain = gain;
                    }
                }
            }
            if (bestNode != NONE) {
                host[bestNode] = bestMachine;
            }
            return bestNode;
        }

        private int cutFewer(int node, int target) {
            int fewer = 0;
            for (int e = 0; e < edges.count; e++) {
                boolean leaves = edges.from[e] == node;
                boolean arrives = edges.to[e] == node;
                if (edges.isThere(e) && leaves != arrives) {
                    int other = host[leaves ? edges.to[e] : edges.from[e]];
                    fewer += (other != host[node] ? 1 : 0) - (other != target ? 1 : 0);
                }
            }
            return fewer;
        }
    }

    /** What one transaction would write. */
    private static final class Transaction {
        final int[] value = new int[NODES];
        final int[] from = new int[LINKS];
        final int[] label = new int[LINKS];
        final int[] to = new int[LINKS];
        boolean isOpen = false;
        int begun = 0;
        int written = 0;
        int links = 0;
        long dropped = 0L;

        void openAt(int when) {
            isOpen = true;
            begun = when;
            written = 0;
            links = 0;
            dropped = 0L;
        }

        void putValue(int node, int newValue) {
            written |= bit(node);
            value[node] = newValue;
        }

        void putLink(int source, int newLabel, int target) {
            from[links] = source;
            label[links] = newLabel;
            to[links] = target;
            links++;
        }

        void putDrop(int edge) {
            dropped |= 1L << edge;
        }

        boolean drops(int edge) {
            return (dropped & 1L << edge) != 0L;
        }

        boolean hasWrites() {
            return written != 0 || links != 0 || dropped != 0L;
        }

        int linksFrom(int node) {
            int found = 0;
            for (int i = 0; i < links; i++) {
                if (from[i] == node) {
                    found++;
                }
            }
            return found;
        }

        int touching(Edges edges) {
            int found = written;
            for (int i = 0; i < links; i++) {
                found |= bit(from[i]) | bit(to[i]);
            }
            for (int e = 0; e < edges.count; e++) {
                if (drops(e)) {
                    found |= bit(edges.from[e]) | bit(edges.to[e]);
                }
            }
            return found;
        }
    }

    /** The rules, and the edges that are told or inferred, as sets of nodes a label and a node. */
    private static final class Facts {
        final Edges edges;
        final int[] first = new int[RULES];
        final int[] second = new int[RULES];
        final int[] third = new int[RULES];
        final boolean[] isDropped = new boolean[RULES];
        final int[][] told = new int[LABELS][NODES];
        final int[][] known = new int[LABELS][NODES];
        int rules = 0;

        Facts(Edges edges) {
            this.edges = edges;
        }

        int addRule(int a, int b, int c) {
            int rule = rules;
            rules++;
            first[rule] = a;
            second[rule] = b;
            third[rule] = c;
            return rule;
        }

        // From the told edges anew, since edges that are reasons of one another in a ring would never go.
        void inferAnew() {
            takeTold();
            boolean isGrowing = true;
            for (int i = 0; isGrowing && i <= LABELS * NODES * NODES; i++) {
                isGrowing = inferOnce();
            }
        }

        private void takeTold() {
            for (int label = 0; label < LABELS; label++) {
                for (int n = 0; n < NODES; n++) {
                    told[label][n] = 0;
                }
            }
            for (int e = 0; e < edges.count; e++) {
                if (edges.isThere(e)) {
                    told[edges.label[e]][edges.from[e]] |= bit(edges.to[e]);
                }
            }
            for (int label = 0; label < LABELS; label++) {
                for (int n = 0; n < NODES; n++) {
                    known[label][n] = told[label][n];
                }
            }
        }

        private boolean inferOnce() {
            boolean isGrowing = false;
            for (int r = 0; r < rules; r++) {
                for (int n = 0; n < NODES && !isDropped[r]; n++) {
                    int before = known[third[r]][n];
                    int after = before | forth(second[r], known[first[r]][n]);
                    known[third[r]][n] = after;
                    isGrowing = isGrowing || after != before;
                }
            }
            return isGrowing;
        }

        int forth(int label, int sources) {
            int found = 0;
            for (int n = 0; n < NODES && sources >>> n != 0; n++) {
                if (has(sources, n)) {
                    found |= known[label][n];
                }
            }
            return found;
        }

        int backwards(int label, int targets) {
            int found = 0;
            for (int n = 0; n < NODES; n++) {
                if ((known[label][n] & targets) != 0) {
                    found |= bit(n);
                }
            }
            return found;
        }

        int countInferred() {
            int found = 0;
            for (int label = 0; label < LABELS; label++) {
                for (int n = 0; n < NODES; n++) {
                    found += Integer.bitCount(known[label][n] & ~told[label][n]);
                }
            }
            return found;
        }

        int countWays(int from, int label, int to) {
            int found = 0;
            for (int r = 0; r < rules; r++) {
                if (!isDropped[r] && third[r] == label) {
                    found += Integer.bitCount(known[first[r]][from] & backwards(second[r], bit(to)));
                }
            }
            return found;
        }
    }

    /** Steps in the order in which they were put; each one knows the steps whose relations it takes. */
    private static final class Pattern {
        final int[] kind = new int[STEPS];
        final int[] label = new int[STEPS];
        final int[] left = new int[STEPS];
        final int[] right = new int[STEPS];
        final int[] stack = new int[STEPS];
        int count = 0;
        int height = 0;

        static int taken(int kind) {
            if (kind == JOIN || kind == EITHER) {
                return 2;
            }
            return kind == MANY ? 1 : 0;
        }

        void put(int newKind, int newLabel) {
            int takes = taken(newKind);
            if (count >= STEPS || height < takes) {
                return;
            }
            kind[count] = newKind;
            label[count] = newLabel;
            if (takes == 2) {
                height--;
                right[count] = stack[height];
            }
            if (takes >= 1) {
                height--;
                left[count] = stack[height];
            }
            stack[height] = count;
            height++;
            count++;
        }
    }

    /** Finds what patterns relate, within a set of nodes. */
    private static final class Matcher {
        final Nodes nodes;
        final Facts facts;
        final int[][] relations = new int[STEPS][NODES];
        final int[] nothing = new int[NODES];

        Matcher(Nodes nodes, Facts facts) {
            this.nodes = nodes;
            this.facts = facts;
        }

        int[] relate(Pattern pattern, int within) {
            if (pattern.count == 0) {
                return nothing;
            }
            for (int i = 0; i < pattern.count; i++) {
                relateStep(pattern, i, within);
            }
            return relations[pattern.count - 1];
        }

        private void relateStep(Pattern pattern, int step, int within) {
            int[] result = relations[step];
            int[] left = relations[pattern.left[step]];
            int[] right = relations[pattern.right[step]];
            switch (pattern.kind[step]) {
                case JOIN:
                    join(left, right, result);
                    break;
                case EITHER:
                    for (int n = 0; n < NODES; n++) {
                        result[n] = left[n] | right[n];
                    }
                    break;
                case MANY:
                    repeat(left, within, result);
                    break;
                default:
                    for (int n = 0; n < NODES; n++) {
                        result[n] = goOneStep(pattern, step, bit(n) & within) & within;
                    }
                    break;
            }
        }

        private static void join(int[] left, int[] right, int[] result) {
            for (int n = 0; n < NODES; n++) {
                int found = 0;
                for (int m = 0; m < NODES; m++) {
                    if (has(left[n], m)) {
                        found |= right[m];
                    }
                }
                result[n] = found;
            }
        }

        private static void repeat(int[] once, int within, int[] result) {
            for (int n = 0; n < NODES; n++) {
                result[n] = once[n] | bit(n) & within;
            }
            for (int over = 0; over < NODES; over++) {
                for (int n = 0; n < NODES; n++) {
                    if (has(result[n], over)) {
                        result[n] |= result[over];
                    }
                }
            }
        }

        private int goOneStep(Pattern pattern, int step, int sources) {
            int label = pattern.label[step];
            switch (pattern.kind[step]) {
                case EDGE:
                    return facts.forth(label, sources);
                case BACK:
                    return facts.backwards(label, sources);
                default:
                    return sources & nodes.labelled(label);
            }
        }

        int goOn(Pattern pattern, int node, int within) {
            if (pattern.count == 0) {
                return 0;
            }
            return goOnFrom(pattern, pattern.count - 1, bit(node) & within, within, 0);
        }

        private int goOnFrom(Pattern pattern, int step, int sources, int within, int depth) {
            if (depth > STEPS || sources == 0) {
                return 0;
            }
            int left = pattern.left[step];
            int right = pattern.right[step];
            switch (pattern.kind[step]) {
                case JOIN:
                    int between = goOnFrom(pattern, left, sources, within, depth + 1);
                    return goOnFrom(pattern, right, between, within, depth + 1);
                case EITHER:
                    return goOnFrom(pattern, left, sources, within, depth + 1)
                            | goOnFrom(pattern, right, sources, within, depth + 1);
                case MANY:
                    return goOnOften(pattern, once(pattern, left), sources, within, depth + 1);
                default:
                    return goOneStep(pattern, step, sources) & within;
            }
        }

        // Many times many times is many times, but costs twice as much for each of them.
        private static int once(Pattern pattern, int step) {
            int found = step;
            for (int i = 0; i < STEPS && pattern.kind[found] == MANY; i++) {
                found = pattern.left[found];
            }
            return found;
        }

        private int goOnOften(Pattern pattern, int step, int sources, int within, int depth) {
            int found = sources;
            int fresh = sources;
            for (int i = 0; fresh != 0 && i < NODES; i++) {
                fresh = goOnFrom(pattern, step, fresh, within, depth) & ~found;
                found |= fresh;
            }
            return found;
        }
    }

    /** The marks that nodes send one another in rounds. */
    private static final class Marks {
        final Edges edges;
        final int[] mark = new int[NODES];
        final int[] sent = new int[NODES];
        int awake = 0;

        Marks(Edges edges) {
            this.edges = edges;
        }

        void comeTo(int node) {
            mark[node] = node;
            awake |= bit(node);
        }

        void startAnew(int there) {
            for (int n = 0; n < NODES; n++) {
                mark[n] = n;
            }
            awake = there;
        }

        void sendAll() {
            int senders = awake;
            awake = 0;
            for (int n = 0; n < NODES; n++) {
                sent[n] = mark[n];
            }
            for (int e = 0; e < edges.count; e++) {
                if (edges.isThere(e)) {
                    sendAlong(senders, edges.from[e], edges.to[e]);
                    sendAlong(senders, edges.to[e], edges.from[e]);
                }
            }
        }

        private void sendAlong(int senders, int sender, int taker) {
            if (has(senders, sender) && sent[sender] < mark[taker]) {
                mark[taker] = sent[sender];
                awake |= bit(taker);
            }
        }
    }
}
