import java.util.Arrays;

/** A workbench for homomorphisms of four small graphs; ../shared/DOC.md says what each call answers. */
public final class HomBench {
    public static final int NONE = -1;

    private static final int GRAPHS = 4;
    private static final int MAX_VERTICES = 8;
    private static final int MAX_SMALL_VERTICES = 6;
    private static final int MAX_WEIGHT = 3;
    private static final int MAX_EDGE_WEIGHT = 2;
    private static final int MAX_STATES = 4;
    private static final int MAX_TEXT = 120;
    private static final int MAX_FAMILY = 4;
    private static final int MAX_SEED = 999999;
    private static final int MAX_PERCENT = 100;
    private static final int MAX_COLORS = 20;
    private static final int MAX_WALK = 12;
    private static final int UNION = 0;
    private static final int STRONG_PRODUCT = 2;
    private static final int COMPLEMENT = 1;
    private static final int INDUCED = 2;
    private static final int CORE = 3;
    private static final int ONTO_VALUES = 5;
    private static final int DISTINCT_EDGES = 6;

    private final Graph[] graphs = new Graph[GRAPHS];
    // What is made from other graphs is made here first: the graph that is made may be one of them.
    private final Graph draft = new Graph();
    private final History history = new History();
    private final Text text = new Text();
    private final Script script = new Script();
    private final Elimination elimination = new Elimination();
    private final MapSums sums = new MapSums();
    private final HomSearch search = new HomSearch();
    private final Bijections bijections = new Bijections();
    private final int[] colorClasses = new int[MAX_VERTICES];
    private final Walks walker = new Walks();

    public HomBench() {
        for (int g = 0; g < GRAPHS; g++) {
            graphs[g] = new Graph();
        }
    }

    // ---- graphs

    public int setSize(int graph, int size) throws IndexOutOfBoundsException, IllegalArgumentException {
        Graph g = graphAt(graph);
        requireRange(size, 0, MAX_VERTICES);
        history.save(graphs);
        int before = g.size;
        g.reset(size);
        return before;
    }

    public int setVertex(int graph, int vertex, int weight)
            throws IndexOutOfBoundsException, IllegalArgumentException {
        Graph g = graphAt(graph);
        requireVertex(g, vertex);
        requireRange(weight, -MAX_WEIGHT, MAX_WEIGHT);
        history.save(graphs);
        int before = g.weights[vertex];
        g.weights[vertex] = weight;
        return before;
    }

    public int setEdge(int graph, int u, int v, int weight)
            throws IndexOutOfBoundsException, IllegalArgumentException {
        Graph g = graphAt(graph);
        requireVertex(g, u);
        requireVertex(g, v);
        requireRange(weight, -MAX_EDGE_WEIGHT, MAX_EDGE_WEIGHT);
        history.save(graphs);
        int before = g.between(u, v);
        g.join(u, v, weight);
        return before;
    }

    public int make(int graph, int family, int size) throws IndexOutOfBoundsException, IllegalArgumentException {
        Graph g = graphAt(graph);
        requireRange(family, 0, MAX_FAMILY);
        requireRange(size, 0, MAX_VERTICES);
        history.save(graphs);
        g.reset(size);
        g.joinFamily(family);
        return g.edgeCount() + g.loopCount();
    }

    public int random(int graph, int size, int seed, int percent)
            throws IndexOutOfBoundsException, IllegalArgumentException {
        Graph g = graphAt(graph);
        requireRange(size, 0, MAX_VERTICES);
        requireRange(seed, 0, MAX_SEED);
        requireRange(percent, 0, MAX_PERCENT);
        history.save(graphs);
        g.reset(size);
        g.joinRandomly(seed, percent);
        return g.edgeCount();
    }

    public int combine(int graph, int x, int y, int kind)
            throws IndexOutOfBoundsException, IllegalArgumentException, IllegalStateException {
        Graph g = graphAt(graph);
        Graph left = graphAt(x);
        Graph right = graphAt(y);
        requireRange(kind, UNION, STRONG_PRODUCT);
        int size = kind == UNION ? left.size + right.size : left.size * right.size;
        if (size > MAX_VERTICES) {
            throw new IllegalStateException("too many vertices");
        }
        history.save(graphs);
        draft.reset(size);
        if (kind == UNION) {
            draft.place(left, left.all(), 0);
            draft.place(right, right.all(), left.size);
        } else {
            draft.multiply(left, right, kind == STRONG_PRODUCT);
        }
        g.copyFrom(draft);
        return g.size;
    }

    public int derive(int graph, int x, int kind, int set)
            throws IndexOutOfBoundsException, IllegalArgumentException {
        Graph g = graphAt(graph);
        Graph source = graphAt(x);
        requireRange(kind, 0, CORE);
        requireRange(set, 0, kind == INDUCED ? source.all() : 0);
        history.save(graphs);
        if (kind == COMPLEMENT) {
            draft.complement(source);
        } else if (kind == INDUCED) {
            draft.induce(source, set);
        } else if (kind == CORE) {
            draft.induce(source, search.coreOf(source));
        } else {
            draft.copyFrom(source);
        }
        g.copyFrom(draft);
        return g.size;
    }

    public int graph(int graph, int what) throws IndexOutOfBoundsException, IllegalArgumentException {
        Graph g = graphAt(graph);
        requireRange(what, 0, 3);
        switch (what) {
            case 0:
                return g.size;
            case 1:
                return g.edgeCount();
            case 2:
                return g.loopCount();
            default:
                return g.partCount();
        }
    }

    public int vertex(int graph, int vertex, int what) throws IndexOutOfBoundsException, IllegalArgumentException {
        Graph g = graphAt(graph);
        requireVertex(g, vertex);
        requireRange(what, 0, 2);
        switch (what) {
            case 0:
                return g.weights[vertex];
            case 1:
                return Integer.bitCount(g.near[vertex]);
            default:
                return g.near[vertex];
        }
    }

    public int edge(int graph, int u, int v) throws IndexOutOfBoundsException {
        Graph g = graphAt(graph);
        requireVertex(g, u);
        requireVertex(g, v);
        return g.between(u, v);
    }

    // ---- elimination

    public int greedy(int graph, int place) throws IndexOutOfBoundsException {
        Graph g = graphAt(graph);
        requireVertex(g, place);
        elimination.runGreedily(g);
        return elimination.order[place];
    }

    public int width(int graph, int order, boolean fill) throws IndexOutOfBoundsException, IllegalArgumentException {
        Graph g = graphAt(graph);
        if (order == 0) {
            elimination.runGreedily(g);
        } else if (elimination.readOrder(order, g.size)) {
            elimination.runInOrder(g);
        } else {
            throw new IllegalArgumentException("not an order of all vertices");
        }
        return fill ? elimination.addedEdges : elimination.orderWidth;
    }

    public int treewidth(int graph) throws IndexOutOfBoundsException {
        return elimination.smallestWidth(graphAt(graph));
    }

    public int bag(int graph, int vertex) throws IndexOutOfBoundsException {
        Graph g = graphAt(graph);
        requireVertex(g, vertex);
        elimination.runGreedily(g);
        return elimination.bags[vertex];
    }

    // ---- counts

    public long count(int x, int y, int kind)
            throws IndexOutOfBoundsException, IllegalArgumentException, IllegalStateException {
        Graph from = graphAt(x);
        Graph to = graphAt(y);
        requireRange(kind, 0, DISTINCT_EDGES);
        requireSmall(from);
        // The odd kinds up to 5 are the value sums of the kinds before them.
        boolean valued = kind <= ONTO_VALUES && kind % 2 != 0;
        sums.load(from, to, valued);
        switch (kind) {
            case 0:
            case 1:
                return sums.overAllMaps(from);
            case 2:
            case 3:
                return sums.overInjectiveMaps();
            case 4:
            case 5:
                return sums.overOntoMaps();
            default:
                return sums.overEdgeInjectiveMaps();
        }
    }

    public long density(int x, int y, int part)
            throws IndexOutOfBoundsException, IllegalArgumentException, IllegalStateException {
        Graph from = graphAt(x);
        Graph to = graphAt(y);
        requireRange(part, 0, 1);
        requireSmall(from);
        if (to.size == 0) {
            throw new IllegalStateException("the second graph has no vertices");
        }
        sums.load(from, to, false);
        long homs = sums.overAllMaps(from);
        long maps = 1;
        for (int v = 0; v < from.size; v++) {
            maps *= to.size;
        }
        long divisor = greatestDivisor(maps, homs);
        if (divisor == 0) {
            return 0;
        }
        return part == 0 ? homs / divisor : maps / divisor;
    }

    public int automorphisms(int graph) throws IndexOutOfBoundsException {
        return bijections.countOnto(graphAt(graph));
    }

    public boolean isomorphic(int x, int y) throws IndexOutOfBoundsException {
        return bijections.exist(graphAt(x), graphAt(y));
    }

    public int image(int x, int y, int vertex) throws IndexOutOfBoundsException {
        Graph from = graphAt(x);
        Graph to = graphAt(y);
        requireVertex(from, vertex);
        return search.firstImage(from, to, vertex);
    }

    public int compare(int x, int y) throws IndexOutOfBoundsException {
        Graph left = graphAt(x);
        Graph right = graphAt(y);
        return (search.maps(left, right) ? 1 : 0) + (search.maps(right, left) ? 2 : 0);
    }

    public long colorings(int graph, int colors) throws IndexOutOfBoundsException, IllegalArgumentException {
        Graph g = graphAt(graph);
        requireRange(colors, 0, MAX_COLORS);
        return properColorings(g, colors);
    }

    public int chromatic(int graph) throws IndexOutOfBoundsException {
        Graph g = graphAt(graph);
        for (int colors = 0; colors <= g.size; colors++) {
            if (properColorings(g, colors) > 0) {
                return colors;
            }
        }
        return NONE;
    }

    public int independent(int graph, int size) throws IndexOutOfBoundsException, IllegalArgumentException {
        Graph g = graphAt(graph);
        requireRange(size, NONE, MAX_VERTICES);
        int found = 0;
        for (int set = 0; set <= g.all(); set++) {
            if ((size == NONE || Integer.bitCount(set) == size) && (g.nearOf(set) & set) == 0) {
                found++;
            }
        }
        return found;
    }

    public long walks(int graph, int length, boolean closed)
            throws IndexOutOfBoundsException, IllegalArgumentException {
        Graph g = graphAt(graph);
        requireRange(length, 0, MAX_WALK);
        long total = 0;
        for (int start = 0; start < g.size; start++) {
            total += walker.sumFrom(g, start, length, closed);
        }
        return total;
    }

    // ---- folds and cores

    public int folds(int graph, int vertex) throws IndexOutOfBoundsException {
        Graph g = graphAt(graph);
        requireVertex(g, vertex);
        return g.foldTargets(vertex, g.all());
    }

    public int dismantle(int graph) throws IndexOutOfBoundsException {
        Graph g = graphAt(graph);
        history.save(graphs);
        int before = g.size;
        draft.induce(g, g.stiffPart());
        g.copyFrom(draft);
        return before - g.size;
    }

    public boolean isCore(int graph) throws IndexOutOfBoundsException {
        Graph g = graphAt(graph);
        return search.coreOf(g) == g.all();
    }

    public int coreSize(int graph) throws IndexOutOfBoundsException {
        return Integer.bitCount(search.coreOf(graphAt(graph)));
    }

    // ---- text

    public int append(int value) throws IllegalArgumentException, IllegalStateException {
        requireRange(value, 0, 127);
        if (text.length >= MAX_TEXT) {
            throw new IllegalStateException("the text is full");
        }
        text.bytes[text.length] = (byte) value;
        text.length++;
        return text.length;
    }

    public int clearText() {
        int before = text.length;
        text.length = 0;
        return before;
    }

    public int parse(int graph) throws IndexOutOfBoundsException {
        Graph g = graphAt(graph);
        int items = text.readGraph(draft);
        if (items == NONE) {
            return -10 - text.at;
        }
        history.save(graphs);
        g.copyFrom(draft);
        return items;
    }

    public int written(int graph, int index) throws IndexOutOfBoundsException, IllegalArgumentException {
        Graph g = graphAt(graph);
        if (index < 0) {
            throw new IllegalArgumentException("the index is negative");
        }
        script.write(g);
        return index < script.length ? script.bytes[index] : NONE;
    }

    // ---- state

    public int undo() throws IllegalStateException {
        if (history.length == 0) {
            throw new IllegalStateException("there is no saved state");
        }
        history.restore(graphs);
        return history.length;
    }

    public long digest() {
        long hash = 31L * 2879 + text.length;
        for (int g = 0; g < GRAPHS; g++) {
            hash = hashOfWeights(hash, graphs[g]);
            hash = 31 * hash + elimination.smallestWidth(graphs[g]);
            hash = 31 * hash + bijections.countOnto(graphs[g]);
            hash = 31 * hash + Integer.bitCount(search.coreOf(graphs[g]));
        }
        hash = hashOfComparisons(hash);
        return 31 * hash + history.length;
    }

    // ---- what the calls share

    private static long hashOfWeights(long before, Graph g) {
        long hash = 31 * before + g.size;
        for (int v = 0; v < g.size; v++) {
            hash = 31 * hash + g.weights[v];
        }
        for (int u = 0; u < g.size; u++) {
            for (int v = u; v < g.size; v++) {
                hash = 31 * hash + g.between(u, v);
            }
        }
        return hash;
    }

    private long hashOfComparisons(long before) {
        // Each comparison asks both ways, so every ordered pair is searched once and looked up twice.
        int maps = 0;
        for (int x = 0; x < GRAPHS; x++) {
            for (int y = 0; y < GRAPHS; y++) {
                if (search.maps(graphs[x], graphs[y])) {
                    maps |= 1 << GRAPHS * x + y;
                }
            }
        }
        long hash = before;
        for (int x = 0; x < GRAPHS; x++) {
            for (int y = 0; y < GRAPHS; y++) {
                int forth = has(maps, GRAPHS * x + y) ? 1 : 0;
                int back = has(maps, GRAPHS * y + x) ? 2 : 0;
                hash = 31 * hash + forth + back;
            }
        }
        return hash;
    }

    private Graph graphAt(int graph) {
        if (graph < 0 || graph >= GRAPHS) {
            throw new IndexOutOfBoundsException("no such graph");
        }
        return graphs[graph];
    }

    private static void requireVertex(Graph g, int vertex) {
        if (vertex < 0 || vertex >= g.size) {
            throw new IndexOutOfBoundsException("no such vertex");
        }
    }

    private static void requireRange(int value, int low, int high) {
        if (value < low || value > high) {
            throw new IllegalArgumentException("an argument is out of range");
        }
    }

    private static void requireSmall(Graph g) {
        if (g.size > MAX_SMALL_VERTICES) {
            throw new IllegalStateException("the first graph is large");
        }
    }

    private static boolean has(int set, int member) {
        return (set >> member & 1) != 0;
    }

    private static int limited(int value, int most) {
        return Math.max(-most, Math.min(most, value));
    }

    private static long greatestDivisor(long a, long b) {
        long larger = a;
        long smaller = b;
        // Two steps at least halve the larger number, so 128 are enough for any long.
        for (int step = 0; step < 128 && smaller != 0; step++) {
            long rest = larger % smaller;
            larger = smaller;
            smaller = rest;
        }
        return larger;
    }

    private long properColorings(Graph g, int colors) {
        return g.loopCount() > 0 ? 0 : colorRest(g, colorClasses, 0, 0, colors);
    }

    /** The colorings of the vertices from one on, where those before it lie in the first so many classes. */
    private static long colorRest(Graph g, int[] classes, int vertex, int used, int colors) {
        if (vertex >= g.size) {
            return 1;
        }
        long total = 0;
        for (int c = 0; c < used; c++) {
            if ((classes[c] & g.near[vertex]) == 0) {
                classes[c] |= 1 << vertex;
                total += colorRest(g, classes, vertex + 1, used, colors);
                classes[c] &= ~(1 << vertex);
            }
        }
        // The new class may have any of the unused colors, and each gives as many colorings.
        if (used < colors && used < classes.length) {
            classes[used] = 1 << vertex;
            total += (colors - used) * colorRest(g, classes, vertex + 1, used + 1, colors);
        }
        return total;
    }

    /** A graph; sets of vertices are bit sets. */
    private static final class Graph {
        int size;
        final int[] weights = new int[MAX_VERTICES];
        final int[] edgeWeights = new int[MAX_VERTICES * MAX_VERTICES];
        // The neighbors of each vertex, itself among them if it has a loop; kept because all searches use them.
        final int[] near = new int[MAX_VERTICES];

        void reset(int newSize) {
            size = newSize;
            Arrays.fill(weights, 1);
            Arrays.fill(edgeWeights, 0);
            Arrays.fill(near, 0);
        }

        void copyFrom(Graph other) {
            size = other.size;
            System.arraycopy(other.weights, 0, weights, 0, MAX_VERTICES);
            System.arraycopy(other.edgeWeights, 0, edgeWeights, 0, MAX_VERTICES * MAX_VERTICES);
            System.arraycopy(other.near, 0, near, 0, MAX_VERTICES);
        }

        int between(int u, int v) {
            return edgeWeights[MAX_VERTICES * u + v];
        }

        void join(int u, int v, int weight) {
            edgeWeights[MAX_VERTICES * u + v] = weight;
            edgeWeights[MAX_VERTICES * v + u] = weight;
            if (weight == 0) {
                near[u] &= ~(1 << v);
                near[v] &= ~(1 << u);
            } else {
                near[u] |= 1 << v;
                near[v] |= 1 << u;
            }
        }

        void joinFamily(int family) {
            for (int u = 0; u < size; u++) {
                for (int v = u; v < size; v++) {
                    if (inFamily(family, u, v)) {
                        join(u, v, 1);
                    }
                }
            }
        }

        private boolean inFamily(int family, int u, int v) {
            switch (family) {
                case 0:
                    return v == u + 1;
                case 1:
                    return v == u + 1 || size >= 3 && u == 0 && v == size - 1;
                case 2:
                    return u != v;
                case 3:
                    return u == 0 && v != 0;
                default:
                    return true;
            }
        }

        void joinRandomly(int seed, int percent) {
            long s = seed;
            for (int u = 0; u < size; u++) {
                for (int v = 0; v < u; v++) {
                    s = (1103515245L * s + 12345) % 2147483648L;
                    if (s / 65536 % 100 < percent) {
                        join(u, v, 1);
                    }
                }
            }
        }

        /** Puts a part of another graph, renumbered in ascending order, into this one from a vertex on. */
        void place(Graph x, int part, int first) {
            int u = first;
            for (int a = 0; a < x.size; a++) {
                if (has(part, a)) {
                    weights[u] = x.weights[a];
                    joinPlaced(x, part, a, u);
                    u++;
                }
            }
        }

        private void joinPlaced(Graph x, int part, int a, int u) {
            int v = u;
            for (int b = a; b < x.size; b++) {
                if (has(part, b)) {
                    join(u, v, x.between(a, b));
                    v++;
                }
            }
        }

        void induce(Graph x, int part) {
            reset(Integer.bitCount(part));
            place(x, part, 0);
        }

        void complement(Graph x) {
            reset(x.size);
            for (int u = 0; u < size; u++) {
                weights[u] = x.weights[u];
                for (int v = 0; v < u; v++) {
                    join(u, v, x.between(u, v) == 0 ? 1 : 0);
                }
            }
        }

        void multiply(Graph x, Graph y, boolean looped) {
            for (int a = 0; a < x.size; a++) {
                for (int b = 0; b < y.size; b++) {
                    weights[y.size * a + b] = limited(x.weights[a] * y.weights[b], MAX_WEIGHT);
                    joinPair(x, y, a, b, looped);
                }
            }
        }

        private void joinPair(Graph x, Graph y, int a, int b, boolean looped) {
            for (int c = 0; c < x.size; c++) {
                for (int d = 0; d < y.size; d++) {
                    int product = x.step(a, c, looped) * y.step(b, d, looped);
                    join(y.size * a + b, y.size * c + d, limited(product, MAX_EDGE_WEIGHT));
                }
            }
        }

        private int step(int u, int v, boolean looped) {
            return looped && u == v ? 1 : between(u, v);
        }

        int all() {
            return (1 << size) - 1;
        }

        int loops() {
            int found = 0;
            for (int v = 0; v < size; v++) {
                found |= near[v] & 1 << v;
            }
            return found;
        }

        int loopCount() {
            return Integer.bitCount(loops());
        }

        int edgeCount() {
            int ends = 0;
            for (int v = 0; v < size; v++) {
                ends += Integer.bitCount(near[v] & ~(1 << v));
            }
            return ends / 2;
        }

        int partCount() {
            int parts = 0;
            int left = all();
            for (int v = 0; v < size; v++) {
                if (has(left, v)) {
                    parts++;
                    left &= ~reached(v, left);
                }
            }
            return parts;
        }

        int nearOf(int set) {
            int found = 0;
            for (int v = 0; v < size; v++) {
                if (has(set, v)) {
                    found |= near[v];
                }
            }
            return found;
        }

        /** The vertex itself and all that it reaches inside a set. */
        int reached(int start, int set) {
            int found = 1 << start;
            int before = 0;
            // Each round but the last finds another vertex.
            for (int round = 0; round <= size && found != before; round++) {
                before = found;
                for (int v = 0; v < size; v++) {
                    found |= has(found, v) ? near[v] & set : 0;
                }
            }
            return found;
        }

        /** The vertices that one can be folded onto in the subgraph of a set. */
        int foldTargets(int vertex, int set) {
            int others = near[vertex] & set & ~(1 << vertex);
            boolean loop = has(near[vertex], vertex);
            int found = 0;
            for (int v = 0; v < size; v++) {
                int needed = loop ? others | 1 << v : others;
                if (v != vertex && has(set, v) && (needed & ~near[v]) == 0) {
                    found |= 1 << v;
                }
            }
            return found;
        }

        int stiffPart() {
            int kept = all();
            for (int round = 0; round < size; round++) {
                int folded = lowestFoldable(kept);
                if (folded == NONE) {
                    break;
                }
                kept &= ~(1 << folded);
            }
            return kept;
        }

        private int lowestFoldable(int set) {
            for (int v = 0; v < size; v++) {
                if (has(set, v) && foldTargets(v, set) != 0) {
                    return v;
                }
            }
            return NONE;
        }
    }

    /** The saved states, the oldest of which gives way when there are too many. */
    private static final class History {
        private final Graph[] copies = new Graph[MAX_STATES * GRAPHS];
        private int oldest;
        int length;

        History() {
            for (int c = 0; c < copies.length; c++) {
                copies[c] = new Graph();
            }
        }

        void save(Graph[] graphs) {
            int slot = (oldest + length) % MAX_STATES;
            for (int g = 0; g < GRAPHS; g++) {
                copies[GRAPHS * slot + g].copyFrom(graphs[g]);
            }
            if (length < MAX_STATES) {
                length++;
            } else {
                oldest = (oldest + 1) % MAX_STATES;
            }
        }

        void restore(Graph[] graphs) {
            length--;
            int slot = (oldest + length) % MAX_STATES;
            for (int g = 0; g < GRAPHS; g++) {
                graphs[g].copyFrom(copies[GRAPHS * slot + g]);
            }
        }
    }

    /** Elimination orders of a graph, and the treewidth. */
    private static final class Elimination {
        final int[] order = new int[MAX_VERTICES];
        final int[] bags = new int[MAX_VERTICES];
        int orderWidth;
        int addedEdges;
        // The neighbors in the present graph, without loops and without what is eliminated.
        private final int[] present = new int[MAX_VERTICES];
        private final int[] widths = new int[1 << MAX_VERTICES];

        private void begin(Graph g) {
            orderWidth = -1;
            addedEdges = 0;
            for (int v = 0; v < g.size; v++) {
                present[v] = g.near[v] & ~(1 << v);
            }
        }

        private void eliminate(int vertex, int size) {
            int others = present[vertex];
            bags[vertex] = others | 1 << vertex;
            orderWidth = Math.max(orderWidth, Integer.bitCount(others));
            int missing = 0;
            for (int u = 0; u < size; u++) {
                if (has(others, u)) {
                    int wanted = others & ~(1 << u);
                    missing += Integer.bitCount(wanted & ~present[u]);
                    present[u] = (present[u] | wanted) & ~(1 << vertex);
                }
            }
            // Each missing edge was seen from both of its ends.
            addedEdges += missing / 2;
        }

        void runGreedily(Graph g) {
            begin(g);
            int left = g.all();
            for (int place = 0; place < g.size; place++) {
                int next = fewestNeighbors(left, g.size);
                order[place] = next;
                left &= ~(1 << next);
                eliminate(next, g.size);
            }
        }

        private int fewestNeighbors(int left, int size) {
            int best = 0;
            int fewest = MAX_VERTICES;
            for (int v = 0; v < size; v++) {
                int neighbors = Integer.bitCount(present[v]);
                if (has(left, v) && neighbors < fewest) {
                    best = v;
                    fewest = neighbors;
                }
            }
            return best;
        }

        void runInOrder(Graph g) {
            begin(g);
            for (int place = 0; place < g.size; place++) {
                eliminate(order[place], g.size);
            }
        }

        /** Takes over an order written as a decimal number, and tells whether it is one of all vertices. */
        boolean readOrder(int number, int size) {
            int rest = number;
            int seen = 0;
            for (int place = size - 1; place >= 0; place--) {
                int vertex = rest % 10 - 1;
                if (vertex < 0 || vertex >= size || has(seen, vertex)) {
                    return false;
                }
                order[place] = vertex;
                seen |= 1 << vertex;
                rest /= 10;
            }
            return rest == 0;
        }

        /**
         * The treewidth. The bag of a vertex depends only on which vertices were eliminated before it, not on
         * their order, so the best width is found for each set of eliminated vertices, smaller sets first.
         */
        int smallestWidth(Graph g) {
            widths[0] = -1;
            for (int set = 1; set <= g.all(); set++) {
                int best = MAX_VERTICES;
                for (int v = 0; v < g.size; v++) {
                    int before = set & ~(1 << v);
                    if (before != set && widths[before] < best) {
                        best = Math.min(best, Math.max(widths[before], laterNeighbors(g, v, before)));
                    }
                }
                widths[set] = best;
            }
            return widths[g.all()];
        }

        private static int laterNeighbors(Graph g, int vertex, int eliminated) {
            int region = g.reached(vertex, eliminated);
            return Integer.bitCount(g.nearOf(region) & ~eliminated & ~(1 << vertex));
        }
    }

    /** Sums of the values of maps from one graph to another one, or their numbers. */
    private static final class MapSums {
        private int sources;
        private int targets;
        // With all worths 1 and all gains 0 or 1 the sums of values are numbers of homomorphisms.
        private final int[] worth = new int[MAX_VERTICES];
        private final int[] gain = new int[MAX_VERTICES * MAX_VERTICES];
        // For each vertex the neighbors that have an image when it gets its own; itself, if it has a loop.
        private final int[] earlier = new int[MAX_VERTICES];
        private final int[] children = new int[MAX_VERTICES];
        private final int[] images = new int[MAX_VERTICES];

        void load(Graph from, Graph to, boolean valued) {
            sources = from.size;
            targets = to.size;
            for (int a = 0; a < targets; a++) {
                worth[a] = valued ? to.weights[a] : 1;
                for (int b = 0; b < targets; b++) {
                    int weight = to.between(a, b);
                    gain[MAX_VERTICES * a + b] = valued || weight == 0 ? weight : 1;
                }
            }
            for (int v = 0; v < sources; v++) {
                earlier[v] = from.near[v] & (1 << v + 1) - 1;
            }
        }

        /** Gives a vertex an image, and answers what this contributes to the value of the map. */
        private long factor(int vertex, int target) {
            images[vertex] = target;
            long value = worth[target];
            for (int v = 0; v < sources && value != 0; v++) {
                if (has(earlier[vertex], v)) {
                    value *= gain[MAX_VERTICES * target + images[v]];
                }
            }
            return value;
        }

        /**
         * The sum over all maps. Once the vertices of a separator have images, the parts that it leaves are
         * independent of each other: their sums are multiplied instead of listing all their maps together.
         */
        long overAllMaps(Graph from) {
            int roots = split(this, from, from.all(), 0, 0);
            long product = 1;
            for (int v = 0; v < sources && product != 0; v++) {
                if (has(roots, v)) {
                    product *= sumBelow(this, v, 0);
                }
            }
            return product;
        }

        /** Makes a tree of separators for a set of vertices; answers the roots, one for each connected part. */
        private static int split(MapSums m, Graph from, int set, int above, int depth) {
            if (depth > MAX_VERTICES) {
                return 0;
            }
            int roots = 0;
            int left = set;
            for (int v = 0; v < from.size; v++) {
                if (has(left, v)) {
                    int part = from.reached(v, left);
                    int root = bestSeparator(from, part);
                    int rest = part & ~(1 << root);
                    m.earlier[root] = from.near[root] & (above | 1 << root);
                    m.children[root] = split(m, from, rest, above | 1 << root, depth + 1);
                    roots |= 1 << root;
                    left &= ~part;
                }
            }
            return roots;
        }

        private static int bestSeparator(Graph from, int part) {
            int best = 0;
            int smallest = MAX_VERTICES + 1;
            for (int v = 0; v < from.size; v++) {
                if (has(part, v)) {
                    int largest = largestPart(from, part & ~(1 << v));
                    if (largest < smallest) {
                        best = v;
                        smallest = largest;
                    }
                }
            }
            return best;
        }

        private static int largestPart(Graph from, int set) {
            int largest = 0;
            for (int v = 0; v < from.size; v++) {
                if (has(set, v)) {
                    largest = Math.max(largest, Integer.bitCount(from.reached(v, set)));
                }
            }
            return largest;
        }

        private static long sumBelow(MapSums m, int vertex, int depth) {
            if (depth > MAX_VERTICES) {
                return 0;
            }
            long total = 0;
            for (int target = 0; target < m.targets; target++) {
                long value = m.factor(vertex, target);
                for (int child = 0; child < m.sources && value != 0; child++) {
                    if (has(m.children[vertex], child)) {
                        value *= sumBelow(m, child, depth + 1);
                    }
                }
                total += value;
            }
            return total;
        }

        long overInjectiveMaps() {
            return sumInjective(this, 0, 0);
        }

        private static long sumInjective(MapSums m, int vertex, int used) {
            if (vertex >= m.sources) {
                return 1;
            }
            long total = 0;
            for (int target = 0; target < m.targets; target++) {
                long value = has(used, target) ? 0 : m.factor(vertex, target);
                if (value != 0) {
                    total += value * sumInjective(m, vertex + 1, used | 1 << target);
                }
            }
            return total;
        }

        long overOntoMaps() {
            return sumOnto(this, 0, 0);
        }

        private static long sumOnto(MapSums m, int vertex, int used) {
            // The vertices that are left must be enough for the targets that are left.
            if (m.targets - Integer.bitCount(used) > m.sources - vertex) {
                return 0;
            }
            if (vertex >= m.sources) {
                return 1;
            }
            long total = 0;
            for (int target = 0; target < m.targets; target++) {
                long value = m.factor(vertex, target);
                if (value != 0) {
                    total += value * sumOnto(m, vertex + 1, used | 1 << target);
                }
            }
            return total;
        }

        long overEdgeInjectiveMaps() {
            return sumEdgeInjective(this, 0, 0);
        }

        private static long sumEdgeInjective(MapSums m, int vertex, long used) {
            if (vertex >= m.sources) {
                return 1;
            }
            int neighbors = Integer.bitCount(m.earlier[vertex] & ~(1 << vertex));
            long total = 0;
            for (int target = 0; target < m.targets; target++) {
                long value = m.factor(vertex, target);
                long edges = m.edgeImages(vertex);
                if (value != 0 && (edges & used) == 0 && Long.bitCount(edges) == neighbors) {
                    total += value * sumEdgeInjective(m, vertex + 1, used | edges);
                }
            }
            return total;
        }

        /** The images of the edges from a vertex to earlier ones, as a set with a bit for each pair of targets. */
        private long edgeImages(int vertex) {
            long edges = 0;
            int end = images[vertex];
            for (int v = 0; v < vertex; v++) {
                if (has(earlier[vertex], v)) {
                    int other = images[v];
                    edges |= 1L << MAX_VERTICES * Math.min(end, other) + Math.max(end, other);
                }
            }
            return edges;
        }
    }

    /** The search for one homomorphism from a part of a graph to a part of another one. */
    private static final class HomSearch {
        private int sources;
        private final int[] fromNear = new int[MAX_VERTICES];
        private final int[] toNear = new int[MAX_VERTICES];
        // For each source the images that are allowed from the start.
        private final int[] allowed = new int[MAX_VERTICES];
        // For each depth of the search the images that remain for each source.
        private final int[][] domains = new int[MAX_VERTICES + 1][MAX_VERTICES];

        private void load(Graph from, int fromPart, Graph to, int toPart) {
            sources = fromPart;
            int looped = to.loops() & toPart;
            for (int v = 0; v < MAX_VERTICES; v++) {
                fromNear[v] = from.near[v] & fromPart & ~(1 << v);
                toNear[v] = to.near[v] & toPart;
                allowed[v] = has(from.near[v], v) ? looped : toPart;
            }
        }

        boolean maps(Graph from, Graph to) {
            load(from, from.all(), to, to.all());
            return extendable(this, allowed, 0);
        }

        int firstImage(Graph from, Graph to, int vertex) {
            load(from, from.all(), to, to.all());
            if (!extendable(this, allowed, 0)) {
                return NONE;
            }
            int found = NONE;
            for (int v = 0; v <= vertex; v++) {
                found = fixFirst(v);
            }
            return found;
        }

        /** Fixes the image of a vertex to the lowest one that still allows a homomorphism. */
        private int fixFirst(int vertex) {
            int choices = allowed[vertex];
            for (int target = 0; target < MAX_VERTICES; target++) {
                if (has(choices, target)) {
                    allowed[vertex] = 1 << target;
                    if (extendable(this, allowed, 0)) {
                        return target;
                    }
                }
            }
            return NONE;
        }

        /**
         * The vertices of the core. One pass is enough: if a vertex could be removed after a later removal,
         * the two homomorphisms, one after the other, would have allowed to remove it before.
         */
        int coreOf(Graph g) {
            int kept = g.all();
            for (int v = 0; v < g.size; v++) {
                load(g, kept, g, kept & ~(1 << v));
                if (has(kept, v) && extendable(this, allowed, 0)) {
                    kept &= ~(1 << v);
                }
            }
            return kept;
        }

        /** Whether there is a homomorphism with an image from the given ones for each source. */
        private static boolean extendable(HomSearch s, int[] given, int depth) {
            // Each depth has one more source with a single image, so there is always a row for it.
            if (depth >= s.domains.length) {
                return false;
            }
            int[] domain = s.domains[depth];
            System.arraycopy(given, 0, domain, 0, MAX_VERTICES);
            if (!s.narrow(domain)) {
                return false;
            }
            int vertex = s.openSource(domain);
            if (vertex == NONE) {
                return true;
            }
            int choices = domain[vertex];
            int failed = 0;
            for (int target = 0; target < MAX_VERTICES; target++) {
                if (has(choices, target) && !s.likeOneOf(domain, target, failed)) {
                    domain[vertex] = 1 << target;
                    if (extendable(s, domain, depth + 1)) {
                        return true;
                    }
                    domain[vertex] = choices;
                    failed |= 1 << target;
                }
            }
            return false;
        }

        /** Removes images without a counterpart at a neighbor, until none is left; false if a source has none. */
        private boolean narrow(int[] domain) {
            boolean changed = true;
            // Each round but the last removes one of at most 64 images.
            for (int round = 0; changed && round <= MAX_VERTICES * MAX_VERTICES; round++) {
                changed = false;
                for (int v = 0; v < MAX_VERTICES; v++) {
                    if (has(sources, v)) {
                        if (domain[v] == 0) {
                            return false;
                        }
                        changed |= narrowNeighbors(domain, v);
                    }
                }
            }
            return true;
        }

        private boolean narrowNeighbors(int[] domain, int vertex) {
            int reachable = 0;
            for (int target = 0; target < MAX_VERTICES; target++) {
                if (has(domain[vertex], target)) {
                    reachable |= toNear[target];
                }
            }
            boolean changed = false;
            for (int v = 0; v < MAX_VERTICES; v++) {
                if (has(fromNear[vertex], v) && (domain[v] & ~reachable) != 0) {
                    domain[v] &= reachable;
                    changed = true;
                }
            }
            return changed;
        }

        /** The source with the fewest images, but more than one; of several that with the most neighbors. */
        private int openSource(int[] domain) {
            int best = NONE;
            int lowest = (MAX_VERTICES + 1) * (MAX_VERTICES + 1);
            for (int v = 0; v < MAX_VERTICES; v++) {
                int images = Integer.bitCount(domain[v]);
                int rank = (MAX_VERTICES + 1) * images - Integer.bitCount(fromNear[v]);
                if (has(sources, v) && images > 1 && rank < lowest) {
                    best = v;
                    lowest = rank;
                }
            }
            return best;
        }

        /** Whether an image must fail as one that failed did, because the two can change places everywhere. */
        private boolean likeOneOf(int[] domain, int target, int failed) {
            for (int other = 0; other < target; other++) {
                if (has(failed, other) && interchangeable(domain, target, other)) {
                    return true;
                }
            }
            return false;
        }

        private boolean interchangeable(int[] domain, int a, int b) {
            int both = 1 << a | 1 << b;
            if (((toNear[a] ^ toNear[b]) & ~both) != 0 || has(toNear[a], a) != has(toNear[b], b)) {
                return false;
            }
            for (int v = 0; v < MAX_VERTICES; v++) {
                if (has(sources, v) && has(domain[v], a) != has(domain[v], b)) {
                    return false;
                }
            }
            return true;
        }
    }

    /** Bijections between the vertices of two graphs that keep all weights. */
    private static final class Bijections {
        private final int[] fromMarks = new int[MAX_VERTICES];
        private final int[] toMarks = new int[MAX_VERTICES];
        private final int[] partners = new int[MAX_VERTICES];

        boolean exist(Graph from, Graph to) {
            if (from.size != to.size) {
                return false;
            }
            mark(from, fromMarks);
            mark(to, toMarks);
            return sameMarks(from.size) && extendable(this, from, to, 0, 0);
        }

        /**
         * The number of automorphisms, as a product: with the vertices below one fixed, each vertex that can
         * be its image is the image in equally many automorphisms.
         */
        int countOnto(Graph g) {
            mark(g, fromMarks);
            mark(g, toMarks);
            int product = 1;
            for (int v = 0; v < g.size; v++) {
                product *= imagesWithLowerFixed(g, v);
                partners[v] = v;
            }
            return product;
        }

        private int imagesWithLowerFixed(Graph g, int vertex) {
            int found = 0;
            int fixed = (1 << vertex) - 1;
            for (int target = vertex; target < g.size; target++) {
                if (fits(g, g, vertex, target)) {
                    partners[vertex] = target;
                    if (extendable(this, g, g, vertex + 1, fixed | 1 << target)) {
                        found++;
                    }
                }
            }
            return found;
        }

        private static boolean extendable(Bijections m, Graph from, Graph to, int vertex, int used) {
            if (vertex >= from.size) {
                return true;
            }
            for (int target = 0; target < to.size; target++) {
                if (!has(used, target) && m.fits(from, to, vertex, target)) {
                    m.partners[vertex] = target;
                    if (extendable(m, from, to, vertex + 1, used | 1 << target)) {
                        return true;
                    }
                }
            }
            return false;
        }

        private boolean fits(Graph from, Graph to, int vertex, int target) {
            if (fromMarks[vertex] != toMarks[target]) {
                return false;
            }
            for (int v = 0; v < vertex; v++) {
                if (from.between(v, vertex) != to.between(partners[v], target)) {
                    return false;
                }
            }
            return true;
        }

        /** Marks each vertex with what all bijections keep of it: its weight, its loop, its edges by weight. */
        private static void mark(Graph g, int[] marks) {
            for (int v = 0; v < g.size; v++) {
                // Eight edges of one weight are more than a vertex has, so three bits hold each number.
                int mark = 8 * (g.weights[v] + MAX_WEIGHT) + g.between(v, v) + MAX_EDGE_WEIGHT;
                for (int weight = -MAX_EDGE_WEIGHT; weight <= MAX_EDGE_WEIGHT; weight++) {
                    mark = 8 * mark + edgesOfWeight(g, v, weight);
                }
                marks[v] = mark;
            }
        }

        private static int edgesOfWeight(Graph g, int vertex, int weight) {
            int found = 0;
            for (int v = 0; v < g.size; v++) {
                if (v != vertex && g.between(vertex, v) == weight) {
                    found++;
                }
            }
            return found;
        }

        private boolean sameMarks(int size) {
            for (int v = 0; v < size; v++) {
                int surplus = 0;
                for (int other = 0; other < size; other++) {
                    surplus += fromMarks[other] == fromMarks[v] ? 1 : 0;
                    surplus -= toMarks[other] == fromMarks[v] ? 1 : 0;
                }
                if (surplus != 0) {
                    return false;
                }
            }
            return true;
        }
    }

    /** Sums over walks, step by step. */
    private static final class Walks {
        private final long[] present = new long[MAX_VERTICES];
        private final long[] next = new long[MAX_VERTICES];

        long sumFrom(Graph g, int start, int length, boolean closed) {
            Arrays.fill(present, 0);
            present[start] = 1;
            for (int step = 0; step < length; step++) {
                advance(g);
            }
            long total = 0;
            for (int v = 0; v < g.size; v++) {
                total += closed && v != start ? 0 : present[v];
            }
            return total;
        }

        private void advance(Graph g) {
            for (int v = 0; v < g.size; v++) {
                long total = 0;
                for (int u = 0; u < g.size; u++) {
                    total += present[u] * g.between(u, v);
                }
                next[v] = total;
            }
            System.arraycopy(next, 0, present, 0, MAX_VERTICES);
        }
    }

    /** The text, and its reading as a graph. */
    private static final class Text {
        // Neither a digit nor a weight.
        private static final int WRONG = -100;

        final byte[] bytes = new byte[MAX_TEXT];
        int length;
        // Where reading stands; after a syntax error, where the error is.
        int at;

        /** Reads the whole text into a graph; answers the number of items, or NONE if there is an error. */
        int readGraph(Graph made) {
            at = 0;
            int size = readDigit(MAX_VERTICES);
            if (size == WRONG) {
                return NONE;
            }
            made.reset(size);
            int items = 0;
            for (int most = 0; at < length && most < MAX_TEXT; most++) {
                if (!accept(';') || !readItem(made)) {
                    return NONE;
                }
                items++;
            }
            return items;
        }

        private boolean readItem(Graph made) {
            return accept('v') ? readVertexItem(made) : readEdgeItem(made);
        }

        private boolean readVertexItem(Graph made) {
            int vertex = readDigit(made.size - 1);
            if (vertex == WRONG || !accept('=')) {
                return false;
            }
            int weight = readWeight(MAX_WEIGHT);
            if (weight == WRONG) {
                return false;
            }
            made.weights[vertex] = weight;
            return true;
        }

        private boolean readEdgeItem(Graph made) {
            int u = readDigit(made.size - 1);
            if (u == WRONG) {
                return false;
            }
            int v = readDigit(made.size - 1);
            if (v == WRONG) {
                return false;
            }
            int weight = accept('=') ? readWeight(MAX_EDGE_WEIGHT) : 1;
            if (weight == WRONG) {
                return false;
            }
            made.join(u, v, weight);
            return true;
        }

        private int readWeight(int most) {
            boolean negative = accept('-');
            int digit = readDigit(most);
            return negative && digit != WRONG ? -digit : digit;
        }

        private int readDigit(int most) {
            if (at >= length || bytes[at] < '0' || bytes[at] > '0' + most) {
                return WRONG;
            }
            int digit = bytes[at] - '0';
            at++;
            return digit;
        }

        private boolean accept(char sign) {
            if (at >= length || bytes[at] != sign) {
                return false;
            }
            at++;
            return true;
        }
    }

    /** A graph written as a text. */
    private static final class Script {
        // The size, an item of six bytes for each vertex, and one of six bytes for each of 36 edges and loops.
        final byte[] bytes = new byte[1 + 6 * MAX_VERTICES + 6 * 36];
        int length;

        void write(Graph g) {
            length = 0;
            put('0' + g.size);
            for (int v = 0; v < g.size; v++) {
                if (g.weights[v] != 1) {
                    put(';');
                    put('v');
                    put('0' + v);
                    putWeight(g.weights[v]);
                }
            }
            for (int u = 0; u < g.size; u++) {
                for (int v = u; v < g.size; v++) {
                    if (g.between(u, v) != 0) {
                        put(';');
                        put('0' + u);
                        put('0' + v);
                        putWeight(g.between(u, v));
                    }
                }
            }
        }

        private void putWeight(int weight) {
            if (weight != 1) {
                put('=');
                if (weight < 0) {
                    put('-');
                }
                put('0' + Math.abs(weight));
            }
        }

        private void put(int sign) {
            if (length < bytes.length) {
                bytes[length] = (byte) sign;
                length++;
            }
        }
    }
}
