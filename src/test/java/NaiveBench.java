import java.util.ArrayDeque;
import java.util.ArrayList;
import java.util.Arrays;
import java.util.Deque;
import java.util.HashMap;
import java.util.List;
import java.util.Map;
import java.util.regex.Matcher;
import java.util.regex.Pattern;

/**
 * The document once more, by other means than the class uses: maps, orders and bijections are listed one after
 * the other, the text is read by regular expressions. RandomRunsTest compares the two.
 */
final class NaiveBench {
    private record Net(int[] weights, int[][] edges) {
        static Net empty(int size) {
            int[] weights = new int[size];
            Arrays.fill(weights, 1);
            return new Net(weights, new int[size][size]);
        }

        int size() {
            return weights.length;
        }

        boolean joined(int u, int v) {
            return edges[u][v] != 0;
        }

        void set(int u, int v, int weight) {
            edges[u][v] = weight;
            edges[v][u] = weight;
        }

        Net copy() {
            int[][] rows = new int[size()][];
            for (int v = 0; v < size(); v++) {
                rows[v] = edges[v].clone();
            }
            return new Net(weights.clone(), rows);
        }

        Net part(List<Integer> members) {
            Net part = empty(members.size());
            for (int u = 0; u < members.size(); u++) {
                part.weights[u] = weights[members.get(u)];
                for (int v = 0; v < members.size(); v++) {
                    part.edges[u][v] = edges[members.get(u)][members.get(v)];
                }
            }
            return part;
        }

        Net without(int vertex) {
            List<Integer> members = new ArrayList<>();
            for (int v = 0; v < size(); v++) {
                if (v != vertex) {
                    members.add(v);
                }
            }
            return part(members);
        }

        String text() {
            StringBuilder text = new StringBuilder().append(size());
            for (int v = 0; v < size(); v++) {
                if (weights[v] != 1) {
                    text.append(";v").append(v).append('=').append(weights[v]);
                }
            }
            for (int u = 0; u < size(); u++) {
                for (int v = u; v < size(); v++) {
                    if (joined(u, v)) {
                        text.append(';').append(u).append(v);
                        text.append(edges[u][v] == 1 ? "" : "=" + edges[u][v]);
                    }
                }
            }
            return text.toString();
        }
    }

    private Net[] nets = {Net.empty(0), Net.empty(0), Net.empty(0), Net.empty(0)};
    private final Deque<Net[]> saved = new ArrayDeque<>();
    private String text = "";

    // ---- what the exceptions are

    private static void index(boolean holds) {
        if (!holds) {
            throw new IndexOutOfBoundsException();
        }
    }

    private static void argument(boolean holds) {
        if (!holds) {
            throw new IllegalArgumentException();
        }
    }

    private static void state(boolean holds) {
        if (!holds) {
            throw new IllegalStateException();
        }
    }

    private Net net(int graph) {
        index(graph >= 0 && graph < 4);
        return nets[graph];
    }

    private static boolean in(int value, int low, int high) {
        return low <= value && value <= high;
    }

    private static void vertexIn(Net net, int vertex) {
        index(in(vertex, 0, net.size() - 1));
    }

    private void save() {
        Net[] copy = new Net[4];
        for (int g = 0; g < 4; g++) {
            copy[g] = nets[g].copy();
        }
        saved.addLast(copy);
        if (saved.size() > 4) {
            saved.removeFirst();
        }
    }

    private void put(int graph, Net made) {
        save();
        nets[graph] = made;
    }

    // ---- graphs

    int setSize(int graph, int size) {
        int before = net(graph).size();
        argument(in(size, 0, 8));
        put(graph, Net.empty(size));
        return before;
    }

    int setVertex(int graph, int vertex, int weight) {
        Net net = net(graph);
        vertexIn(net, vertex);
        argument(in(weight, -3, 3));
        save();
        int before = net.weights[vertex];
        net.weights[vertex] = weight;
        return before;
    }

    int setEdge(int graph, int u, int v, int weight) {
        Net net = net(graph);
        vertexIn(net, u);
        vertexIn(net, v);
        argument(in(weight, -2, 2));
        save();
        int before = net.edges[u][v];
        net.set(u, v, weight);
        return before;
    }

    int make(int graph, int family, int size) {
        net(graph);
        argument(in(family, 0, 4) && in(size, 0, 8));
        Net made = Net.empty(size);
        for (int v = 0; v + 1 < size && family < 2; v++) {
            made.set(v, v + 1, 1);
        }
        if (family == 1 && size >= 3) {
            made.set(size - 1, 0, 1);
        }
        for (int v = 1; v < size && family == 3; v++) {
            made.set(0, v, 1);
        }
        for (int u = 0; u < size; u++) {
            for (int v = 0; v < size; v++) {
                if (family == 4 || family == 2 && u != v) {
                    made.set(u, v, 1);
                }
            }
        }
        put(graph, made);
        return graph(graph, 1) + graph(graph, 2);
    }

    int random(int graph, int size, int seed, int percent) {
        net(graph);
        argument(in(size, 0, 8) && in(seed, 0, 999999) && in(percent, 0, 100));
        Net made = Net.empty(size);
        long s = seed;
        for (int u = 0; u < size; u++) {
            for (int v = 0; v < u; v++) {
                s = (1103515245L * s + 12345) & 0x7fffffffL;
                if ((s >> 16) % 100 < percent) {
                    made.set(u, v, 1);
                }
            }
        }
        put(graph, made);
        return graph(graph, 1);
    }

    int combine(int graph, int x, int y, int kind) {
        net(graph);
        Net a = net(x);
        Net b = net(y);
        argument(in(kind, 0, 2));
        int size = kind == 0 ? a.size() + b.size() : a.size() * b.size();
        state(size <= 8);
        Net made = Net.empty(size);
        for (int u = 0; u < size; u++) {
            made.weights[u] = kind == 0 ? unionWeight(a, b, u)
                    : cut(a.weights[u / b.size()] * b.weights[u % b.size()], 3);
            for (int v = 0; v < size; v++) {
                made.edges[u][v] = kind == 0 ? unionEdge(a, b, u, v)
                        : cut(looped(a, u / b.size(), v / b.size(), kind)
                                * looped(b, u % b.size(), v % b.size(), kind), 2);
            }
        }
        put(graph, made);
        return size;
    }

    private static int unionWeight(Net a, Net b, int u) {
        return u < a.size() ? a.weights[u] : b.weights[u - a.size()];
    }

    private static int unionEdge(Net a, Net b, int u, int v) {
        if (u < a.size() && v < a.size()) {
            return a.edges[u][v];
        }
        return u >= a.size() && v >= a.size() ? b.edges[u - a.size()][v - a.size()] : 0;
    }

    private static int looped(Net net, int u, int v, int kind) {
        return kind == 2 && u == v ? 1 : net.edges[u][v];
    }

    private static int cut(int value, int most) {
        return value > most ? most : value < -most ? -most : value;
    }

    int derive(int graph, int x, int kind, int set) {
        net(graph);
        Net source = net(x);
        argument(in(kind, 0, 3));
        argument(set >= 0 && set < 1 << source.size() && (kind == 2 || set == 0));
        Net made;
        if (kind == 0) {
            made = source.copy();
        } else if (kind == 1) {
            made = Net.empty(source.size());
            for (int u = 0; u < source.size(); u++) {
                made.weights[u] = source.weights[u];
                for (int v = 0; v < source.size(); v++) {
                    made.edges[u][v] = u != v && !source.joined(u, v) ? 1 : 0;
                }
            }
        } else {
            made = kind == 2 ? source.part(members(set)) : core(source);
        }
        put(graph, made);
        return made.size();
    }

    private static List<Integer> members(int set) {
        List<Integer> members = new ArrayList<>();
        for (int v = 0; v < 8; v++) {
            if ((set & 1 << v) != 0) {
                members.add(v);
            }
        }
        return members;
    }

    int graph(int graph, int what) {
        Net net = net(graph);
        argument(in(what, 0, 3));
        int edges = 0;
        int loops = 0;
        int[] part = new int[net.size()];
        int parts = net.size();
        for (int v = 0; v < net.size(); v++) {
            part[v] = v;
        }
        for (int u = 0; u < net.size(); u++) {
            loops += net.joined(u, u) ? 1 : 0;
            for (int v = 0; v < u; v++) {
                if (net.joined(u, v)) {
                    edges++;
                    if (part[u] != part[v]) {
                        parts--;
                        int old = part[u];
                        for (int w = 0; w < net.size(); w++) {
                            part[w] = part[w] == old ? part[v] : part[w];
                        }
                    }
                }
            }
        }
        return new int[] {net.size(), edges, loops, parts}[what];
    }

    int vertex(int graph, int vertex, int what) {
        Net net = net(graph);
        vertexIn(net, vertex);
        argument(in(what, 0, 2));
        int set = 0;
        int degree = 0;
        for (int v = 0; v < net.size(); v++) {
            if (net.joined(vertex, v)) {
                degree++;
                set += 1 << v;
            }
        }
        return what == 0 ? net.weights[vertex] : what == 1 ? degree : set;
    }

    int edge(int graph, int u, int v) {
        Net net = net(graph);
        vertexIn(net, u);
        vertexIn(net, v);
        return net.edges[u][v];
    }

    // ---- elimination

    private static boolean[][] plain(Net net) {
        boolean[][] rows = new boolean[net.size()][net.size()];
        for (int u = 0; u < net.size(); u++) {
            for (int v = 0; v < net.size(); v++) {
                rows[u][v] = u != v && net.joined(u, v);
            }
        }
        return rows;
    }

    private static List<Integer> around(boolean[][] rows, int vertex) {
        List<Integer> found = new ArrayList<>();
        for (int v = 0; v < rows.length; v++) {
            if (rows[vertex][v]) {
                found.add(v);
            }
        }
        return found;
    }

    /** Eliminates a vertex and answers how many edges this added. */
    private static int eliminate(boolean[][] rows, int vertex) {
        int added = 0;
        List<Integer> around = around(rows, vertex);
        for (int u : around) {
            for (int v : around) {
                if (u < v && !rows[u][v]) {
                    rows[u][v] = true;
                    rows[v][u] = true;
                    added++;
                }
            }
        }
        for (int u : around) {
            rows[u][vertex] = false;
            rows[vertex][u] = false;
        }
        return added;
    }

    private static List<Integer> greedyOrder(Net net) {
        boolean[][] rows = plain(net);
        List<Integer> order = new ArrayList<>();
        while (order.size() < net.size()) {
            int best = -1;
            for (int v = 0; v < net.size(); v++) {
                if (!order.contains(v) && (best < 0 || around(rows, v).size() < around(rows, best).size())) {
                    best = v;
                }
            }
            order.add(best);
            eliminate(rows, best);
        }
        return order;
    }

    int greedy(int graph, int place) {
        Net net = net(graph);
        vertexIn(net, place);
        return greedyOrder(net).get(place);
    }

    int width(int graph, int order, boolean fill) {
        Net net = net(graph);
        List<Integer> vertices = greedyOrder(net);
        if (order != 0) {
            vertices = new ArrayList<>();
            for (char digit : String.valueOf(order).toCharArray()) {
                vertices.add(digit - '1');
            }
            List<Integer> sorted = new ArrayList<>(vertices);
            sorted.sort(null);
            argument(sorted.equals(members((1 << net.size()) - 1)));
        }
        boolean[][] rows = plain(net);
        int width = -1;
        int added = 0;
        for (int v : vertices) {
            width = Math.max(width, around(rows, v).size());
            added += eliminate(rows, v);
        }
        return fill ? added : width;
    }

    int treewidth(int graph) {
        return smallestWidth(plain(net(graph)), 0, new HashMap<>());
    }

    private static int smallestWidth(boolean[][] rows, int gone, Map<Integer, Integer> known) {
        if (gone == (1 << rows.length) - 1) {
            return -1;
        }
        if (!known.containsKey(gone)) {
            int best = 99;
            for (int v = 0; v < rows.length; v++) {
                if ((gone & 1 << v) == 0) {
                    boolean[][] next = new boolean[rows.length][];
                    for (int u = 0; u < rows.length; u++) {
                        next[u] = rows[u].clone();
                    }
                    eliminate(next, v);
                    int width = Math.max(around(rows, v).size(), smallestWidth(next, gone | 1 << v, known));
                    best = Math.min(best, width);
                }
            }
            known.put(gone, best);
        }
        return known.get(gone);
    }

    int bag(int graph, int vertex) {
        Net net = net(graph);
        vertexIn(net, vertex);
        boolean[][] rows = plain(net);
        int bag = 0;
        for (int v : greedyOrder(net)) {
            if (v == vertex) {
                bag = 1 << v;
                for (int u : around(rows, v)) {
                    bag += 1 << u;
                }
            }
            eliminate(rows, v);
        }
        return bag;
    }

    // ---- counts

    long count(int x, int y, int kind) {
        Net from = net(x);
        Net to = net(y);
        argument(in(kind, 0, 6));
        state(from.size() <= 6);
        long total = 0;
        int[] images = new int[from.size()];
        long maps = power(to.size(), from.size());
        for (long map = 0; map < maps; map++) {
            long rest = map;
            for (int v = 0; v < images.length; v++) {
                images[v] = (int) (rest % to.size());
                rest /= to.size();
            }
            total += contribution(from, to, images, kind);
        }
        return total;
    }

    private static long power(int base, int exponent) {
        long power = 1;
        for (int i = 0; i < exponent; i++) {
            power *= base;
        }
        return power;
    }

    private static long contribution(Net from, Net to, int[] images, int kind) {
        for (int u = 0; u < images.length; u++) {
            for (int v = u; v < images.length; v++) {
                if (from.joined(u, v) && !to.joined(images[u], images[v])) {
                    return 0;
                }
            }
        }
        long different = Arrays.stream(images).distinct().count();
        boolean counted = switch (kind) {
            case 2, 3 -> different == images.length;
            case 4, 5 -> different == to.size();
            case 6 -> edgesStayDifferent(from, images);
            default -> true;
        };
        if (!counted) {
            return 0;
        }
        return kind % 2 == 0 ? 1 : value(from, to, images);
    }

    private static boolean edgesStayDifferent(Net from, int[] images) {
        List<String> seen = new ArrayList<>();
        for (int u = 0; u < images.length; u++) {
            for (int v = 0; v < u; v++) {
                if (from.joined(u, v)) {
                    String image = Math.min(images[u], images[v]) + "-" + Math.max(images[u], images[v]);
                    if (seen.contains(image)) {
                        return false;
                    }
                    seen.add(image);
                }
            }
        }
        return true;
    }

    private static long value(Net from, Net to, int[] images) {
        long value = 1;
        for (int u = 0; u < images.length; u++) {
            value *= to.weights[images[u]];
            for (int v = u; v < images.length; v++) {
                value *= from.joined(u, v) ? to.edges[images[u]][images[v]] : 1;
            }
        }
        return value;
    }

    long density(int x, int y, int part) {
        Net from = net(x);
        Net to = net(y);
        argument(in(part, 0, 1));
        state(from.size() <= 6 && to.size() > 0);
        long homs = count(x, y, 0);
        long maps = power(to.size(), from.size());
        for (long divisor = Math.max(homs, 1); divisor > 1; divisor--) {
            if (homs % divisor == 0 && maps % divisor == 0) {
                homs /= divisor;
                maps /= divisor;
            }
        }
        return part == 0 ? homs : homs == 0 ? 1 : maps;
    }

    /** Lists bijections that keep all weights: all of them, or up to the first one. */
    private static int bijections(Net a, Net b, int[] images, int placed, boolean first) {
        if (placed == a.size()) {
            return 1;
        }
        int found = 0;
        for (int image = 0; image < b.size() && !(first && found > 0); image++) {
            images[placed] = image;
            boolean kept = a.weights[placed] == b.weights[image];
            for (int v = 0; v <= placed; v++) {
                kept &= a.edges[v][placed] == b.edges[images[v]][image];
                kept &= v == placed || images[v] != image;
            }
            found += kept ? bijections(a, b, images, placed + 1, first) : 0;
        }
        return found;
    }

    int automorphisms(int graph) {
        Net net = net(graph);
        return bijections(net, net, new int[net.size()], 0, false);
    }

    boolean isomorphic(int x, int y) {
        Net a = net(x);
        Net b = net(y);
        return a.size() == b.size() && bijections(a, b, new int[a.size()], 0, true) > 0;
    }

    /** The lexicographically first homomorphism, or null. */
    private static int[] firstHom(Net a, Net b, int[] images, int placed) {
        if (placed == a.size()) {
            return images;
        }
        for (int image = 0; image < b.size(); image++) {
            images[placed] = image;
            boolean kept = true;
            for (int v = 0; v <= placed; v++) {
                kept &= !a.joined(v, placed) || b.joined(images[v], image);
            }
            if (kept && firstHom(a, b, images, placed + 1) != null) {
                return images;
            }
        }
        return null;
    }

    private static boolean maps(Net a, Net b) {
        return firstHom(a, b, new int[a.size()], 0) != null;
    }

    int image(int x, int y, int vertex) {
        Net a = net(x);
        Net b = net(y);
        vertexIn(a, vertex);
        int[] first = firstHom(a, b, new int[a.size()], 0);
        return first == null ? -1 : first[vertex];
    }

    int compare(int x, int y) {
        Net a = net(x);
        Net b = net(y);
        return (maps(a, b) ? 1 : 0) + (maps(b, a) ? 2 : 0);
    }

    long colorings(int graph, int colors) {
        Net net = net(graph);
        argument(in(colors, 0, 20));
        return colorings(net, colors);
    }

    /** By deletion and contraction. */
    private static long colorings(Net net, int colors) {
        for (int u = 0; u < net.size(); u++) {
            if (net.joined(u, u)) {
                return 0;
            }
        }
        for (int u = 0; u < net.size(); u++) {
            for (int v = 0; v < u; v++) {
                if (net.joined(u, v)) {
                    Net deleted = net.copy();
                    deleted.set(u, v, 0);
                    Net merged = deleted.copy();
                    for (int w = 0; w < net.size(); w++) {
                        if (merged.joined(u, w)) {
                            merged.set(v, w, 1);
                        }
                    }
                    return colorings(deleted, colors) - colorings(merged.without(u), colors);
                }
            }
        }
        return power(colors, net.size());
    }

    int chromatic(int graph) {
        Net net = net(graph);
        for (int v = 0; v < net.size(); v++) {
            if (net.joined(v, v)) {
                return -1;
            }
        }
        int colors = 0;
        Net complete = Net.empty(0);
        while (!maps(net, complete)) {
            colors++;
            complete = Net.empty(colors);
            for (int[] row : complete.edges) {
                Arrays.fill(row, 1);
            }
            for (int v = 0; v < colors; v++) {
                complete.edges[v][v] = 0;
            }
        }
        return colors;
    }

    int independent(int graph, int size) {
        Net net = net(graph);
        argument(in(size, -1, 8));
        int found = 0;
        for (int set = 0; set < 1 << net.size(); set++) {
            List<Integer> members = members(set);
            boolean free = size == -1 || members.size() == size;
            for (int u : members) {
                for (int v : members) {
                    free &= !net.joined(u, v);
                }
            }
            found += free ? 1 : 0;
        }
        return found;
    }

    long walks(int graph, int length, boolean closed) {
        Net net = net(graph);
        argument(in(length, 0, 12));
        long[][] power = new long[net.size()][net.size()];
        for (int v = 0; v < net.size(); v++) {
            power[v][v] = 1;
        }
        for (int step = 0; step < length; step++) {
            long[][] next = new long[net.size()][net.size()];
            for (int u = 0; u < net.size(); u++) {
                for (int v = 0; v < net.size(); v++) {
                    for (int w = 0; w < net.size(); w++) {
                        next[u][v] += power[u][w] * net.edges[w][v];
                    }
                }
            }
            power = next;
        }
        long total = 0;
        for (int u = 0; u < net.size(); u++) {
            for (int v = 0; v < net.size(); v++) {
                total += !closed || u == v ? power[u][v] : 0;
            }
        }
        return total;
    }

    // ---- folds and cores

    private static int folds(Net net, int u) {
        int set = 0;
        for (int v = 0; v < net.size(); v++) {
            boolean can = u != v;
            for (int w = 0; w < net.size(); w++) {
                can &= !net.joined(u, w) || net.joined(v, w == u ? v : w);
            }
            set += can ? 1 << v : 0;
        }
        return set;
    }

    int folds(int graph, int vertex) {
        Net net = net(graph);
        vertexIn(net, vertex);
        return folds(net, vertex);
    }

    int dismantle(int graph) {
        Net net = net(graph);
        int before = net.size();
        for (int v = 0; v < net.size(); v++) {
            if (folds(net, v) != 0) {
                net = net.without(v);
                v = -1;
            }
        }
        put(graph, net.copy());
        return before - net.size();
    }

    private static Net core(Net net) {
        for (int v = 0; v < net.size(); v++) {
            if (maps(net, net.without(v))) {
                return core(net.without(v));
            }
        }
        return net.copy();
    }

    boolean isCore(int graph) {
        Net net = net(graph);
        return core(net).size() == net.size();
    }

    int coreSize(int graph) {
        return core(net(graph)).size();
    }

    // ---- text

    int append(int value) {
        argument(in(value, 0, 127));
        state(text.length() < 120);
        text += (char) value;
        return text.length();
    }

    int clearText() {
        int before = text.length();
        text = "";
        return before;
    }

    int parse(int graph) {
        net(graph);
        for (int end = 1; end <= text.length(); end++) {
            Matcher start = grammar(text).matcher(text.substring(0, end));
            if (!start.matches() && !start.hitEnd()) {
                return -10 - (end - 1);
            }
        }
        if (!grammar(text).matcher(text).matches()) {
            return -10 - text.length();
        }
        String[] items = text.split(";");
        Net made = Net.empty(Integer.parseInt(items[0]));
        for (int i = 1; i < items.length; i++) {
            readItem(made, items[i]);
        }
        put(graph, made);
        return items.length - 1;
    }

    private static Pattern grammar(String text) {
        int size = text.isEmpty() ? 0 : text.charAt(0) - '0';
        String digit = size < 1 || size > 8 ? "[^\\s\\S]" : "[0-" + (char) ('0' + size - 1) + "]";
        return Pattern.compile("[0-8](;(v" + digit + "=-?[0-3]|" + digit + digit + "(=-?[0-2])?))*");
    }

    private static void readItem(Net made, String item) {
        int sign = item.indexOf('=');
        int weight = sign < 0 ? 1 : Integer.parseInt(item.substring(sign + 1));
        if (item.charAt(0) == 'v') {
            made.weights[item.charAt(1) - '0'] = weight;
        } else {
            made.set(item.charAt(0) - '0', item.charAt(1) - '0', weight);
        }
    }

    int written(int graph, int index) {
        Net net = net(graph);
        argument(index >= 0);
        String text = net.text();
        return index < text.length() ? text.charAt(index) : -1;
    }

    String text(int graph) {
        return net(graph).text();
    }

    // ---- state

    int undo() {
        state(!saved.isEmpty());
        nets = saved.removeLast();
        return saved.size();
    }

    long digest() {
        List<Long> values = new ArrayList<>();
        values.add((long) text.length());
        for (int g = 0; g < 4; g++) {
            Net net = nets[g];
            values.add((long) net.size());
            for (int weight : net.weights) {
                values.add((long) weight);
            }
            for (int u = 0; u < net.size(); u++) {
                for (int v = u; v < net.size(); v++) {
                    values.add((long) net.edges[u][v]);
                }
            }
            values.add((long) treewidth(g));
            values.add((long) automorphisms(g));
            values.add((long) coreSize(g));
        }
        for (int pair = 0; pair < 16; pair++) {
            values.add((long) compare(pair / 4, pair % 4));
        }
        values.add((long) saved.size());
        long hash = 2879;
        for (long value : values) {
            hash = 31 * hash + value;
        }
        return hash;
    }
}
