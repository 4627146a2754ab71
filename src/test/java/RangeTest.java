/**
 * For each argument of each method the least and the greatest number that is taken, and that the first one beyond
 * on either side (and the least and the greatest int) is refused with the due exception and changes nothing.
 */
final class RangeTest {
    private static final int NO_VERTEX = -1;

    public static void main(String[] args) {
        graphsThatChange();
        graphsThatAreCombined();
        graphsThatAreAsked();
        graphsThatAreSearched();
        vertices();
        places();
        sizes();
        weights();
        families();
        seedsAndPercents();
        kinds();
        sets();
        orders();
        colorsSizesLengths();
        bytes();
        indexesOfBytes();
        Check.finish("RangeTest");
    }

    private static void graph(String what, Check.NumberCall call) {
        Check.indexes("the graph of " + what, Benches::pairs, 0, 3, call);
    }

    private static void graphsThatChange() {
        graph("setSize", (x, g) -> x.setSize(g, 1));
        graph("setVertex", (x, g) -> x.setVertex(g, 0, 2));
        graph("setEdge", (x, g) -> x.setEdge(g, 0, 1, 2));
        graph("make", (x, g) -> x.make(g, 0, 3));
        graph("random", (x, g) -> x.random(g, 3, 1, 50));
        graph("dismantle", (x, g) -> x.dismantle(g));
        graph("parse", (x, g) -> x.parse(g));
    }

    private static void graphsThatAreCombined() {
        for (int each = 0; each <= 2; each++) {
            int kind = each;
            graph("combine", (x, g) -> x.combine(g, 1, 2, kind));
            graph("combine, as x", (x, g) -> x.combine(1, g, 2, kind));
            graph("combine, as y", (x, g) -> x.combine(1, 2, g, kind));
        }
        for (int each = 0; each <= 3; each++) {
            int kind = each;
            graph("derive", (x, g) -> x.derive(g, 1, kind, 0));
            graph("derive, as x", (x, g) -> x.derive(1, g, kind, 0));
        }
    }

    private static void graphsThatAreAsked() {
        graph("graph", (x, g) -> x.graph(g, 0));
        graph("vertex", (x, g) -> x.vertex(g, 0, 0));
        graph("edge", (x, g) -> x.edge(g, 0, 1));
        graph("greedy", (x, g) -> x.greedy(g, 0));
        graph("width", (x, g) -> x.width(g, 12, false));
        graph("width, greedy", (x, g) -> x.width(g, 0, true));
        graph("treewidth", (x, g) -> x.treewidth(g));
        graph("bag", (x, g) -> x.bag(g, 0));
        graph("written", (x, g) -> x.written(g, 0));
        graph("colorings", (x, g) -> x.colorings(g, 3));
        graph("chromatic", (x, g) -> x.chromatic(g));
        graph("independent", (x, g) -> x.independent(g, 1));
        graph("walks", (x, g) -> x.walks(g, 2, true));
    }

    private static void graphsThatAreSearched() {
        for (int each = 0; each <= 6; each++) {
            int kind = each;
            graph("count, as x", (x, g) -> x.count(g, 1, kind));
            graph("count, as y", (x, g) -> x.count(1, g, kind));
        }
        graph("density, as x", (x, g) -> x.density(g, 1, 0));
        graph("density, as y", (x, g) -> x.density(1, g, 1));
        graph("automorphisms", (x, g) -> x.automorphisms(g));
        graph("isomorphic, as x", (x, g) -> x.isomorphic(g, 1));
        graph("isomorphic, as y", (x, g) -> x.isomorphic(1, g));
        graph("image, as x", (x, g) -> x.image(g, 1, 0));
        graph("image, as y", (x, g) -> x.image(1, g, 0));
        graph("compare, as x", (x, g) -> x.compare(g, 1));
        graph("compare, as y", (x, g) -> x.compare(1, g));
        graph("folds", (x, g) -> x.folds(g, 0));
        graph("isCore", (x, g) -> x.isCore(g));
        graph("coreSize", (x, g) -> x.coreSize(g));
    }

    private static void vertex(String what, int graph, Check.NumberCall call) {
        int last = Benches.sizeOf(graph) == 0 ? NO_VERTEX : Benches.sizeOf(graph) - 1;
        Check.indexes("the vertex of " + what + " in graph " + graph, Benches::sizes, 0, last, call);
    }

    private static void vertices() {
        for (int each = 0; each < 4; each++) {
            int g = each;
            int last = Math.max(0, Benches.sizeOf(g) - 1);
            vertex("setVertex", g, (x, v) -> x.setVertex(g, v, 2));
            vertex("setEdge, as u", g, (x, v) -> x.setEdge(g, v, last, 1));
            vertex("setEdge, as v", g, (x, v) -> x.setEdge(g, last, v, 1));
            vertex("vertex", g, (x, v) -> x.vertex(g, v, 1));
            vertex("edge, as u", g, (x, v) -> x.edge(g, v, last));
            vertex("edge, as v", g, (x, v) -> x.edge(g, last, v));
            vertex("bag", g, (x, v) -> x.bag(g, v));
            vertex("folds", g, (x, v) -> x.folds(g, v));
            vertex("image", g, (x, v) -> x.image(g, Benches.LARGE, v));
            vertex("image in a graph without vertices", g, (x, v) -> x.image(g, Benches.EMPTY, v));
        }
    }

    private static void places() {
        for (int each = 0; each < 4; each++) {
            int g = each;
            vertex("greedy", g, (x, place) -> x.greedy(g, place));
        }
    }

    private static void number(String what, int low, int high, Check.NumberCall call) {
        Check.arguments(what, Benches::sizes, low, high, call);
    }

    private static void sizes() {
        for (int each = 0; each < 4; each++) {
            int g = each;
            number("setSize", 0, 8, (x, size) -> x.setSize(g, size));
            number("random", 0, 8, (x, size) -> x.random(g, size, 1, 50));
        }
        for (int each = 0; each <= 4; each++) {
            int family = each;
            number("make", 0, 8, (x, size) -> x.make(0, family, size));
        }
    }

    private static void weights() {
        for (int each = 0; each < Benches.EMPTY; each++) {
            int g = each;
            int last = Benches.sizeOf(g) - 1;
            number("the weight of a vertex", -3, 3, (x, weight) -> x.setVertex(g, last, weight));
            number("the weight of an edge", -2, 2, (x, weight) -> x.setEdge(g, last, 0, weight));
            number("the weight of a loop", -2, 2, (x, weight) -> x.setEdge(g, last, last, weight));
        }
    }

    private static void families() {
        number("family", 0, 4, (x, family) -> x.make(0, family, 0));
        number("family", 0, 4, (x, family) -> x.make(0, family, 8));
    }

    private static void seedsAndPercents() {
        number("seed", 0, 999999, (x, seed) -> x.random(0, 0, seed, 0));
        number("seed", 0, 999999, (x, seed) -> x.random(0, 8, seed, 100));
        number("percent", 0, 100, (x, percent) -> x.random(0, 0, 0, percent));
        number("percent", 0, 100, (x, percent) -> x.random(0, 8, 999999, percent));
    }

    private static void kinds() {
        number("the kind of combine", 0, 2, (x, kind) -> x.combine(0, 2, 2, kind));
        number("the kind of derive", 0, 3, (x, kind) -> x.derive(2, 0, kind, 0));
        for (int each = 0; each < 4; each++) {
            int g = each;
            number("what of graph", 0, 3, (x, what) -> x.graph(g, what));
        }
        number("what of vertex", 0, 2, (x, what) -> x.vertex(0, 7, what));
        number("what of vertex", 0, 2, (x, what) -> x.vertex(2, 0, what));
        number("the kind of count", 0, 6, (x, kind) -> x.count(1, 0, kind));
        number("the kind of count", 0, 6, (x, kind) -> x.count(3, 3, kind));
        number("the part of density", 0, 1, (x, part) -> x.density(1, 0, part));
        number("the part of density", 0, 1, (x, part) -> x.density(3, 2, part));
    }

    /** Only the vertices of x may be in the set, and only for kind 2. */
    private static void sets() {
        for (int each = 0; each < 4; each++) {
            int g = each;
            int all = (1 << Benches.sizeOf(g)) - 1;
            number("a set of vertices of graph " + g, 0, all, (x, set) -> x.derive(1, g, 2, set));
            int[] others = {0, 1, 3};
            for (int kind : others) {
                number("a set for kind " + kind, 0, 0, (x, set) -> x.derive(1, g, kind, set));
            }
        }
    }

    private static void orders() {
        number("an order of one vertex", 0, 1, (x, order) -> x.width(Benches.ONE, order, false));
        number("an order of one vertex", 0, 1, (x, order) -> x.width(Benches.ONE, order, true));
        number("an order without vertices", 0, 0, (x, order) -> x.width(Benches.EMPTY, order, false));
        number("an order without vertices", 0, 0, (x, order) -> x.width(Benches.EMPTY, order, true));
    }

    private static void colorsSizesLengths() {
        for (int each = 0; each < 4; each++) {
            int g = each;
            number("colors", 0, 20, (x, colors) -> x.colorings(g, colors));
            number("the size of a set", HomBench.NONE, 8, (x, size) -> x.independent(g, size));
            number("the length of a walk", 0, 12, (x, length) -> x.walks(g, length, true));
            number("the length of a walk", 0, 12, (x, length) -> x.walks(g, length, false));
        }
    }

    private static void bytes() {
        number("a byte", 0, 127, (x, value) -> x.append(value));
    }

    private static void indexesOfBytes() {
        for (int each = 0; each < 4; each++) {
            int g = each;
            HomBench x = Benches.sizes();
            int length = Check.text(x, g).length();
            Check.due("the first byte", '0' + Benches.sizeOf(g), x.written(g, 0));
            Check.due("the last byte", false, x.written(g, length - 1) == HomBench.NONE);
            Check.due("the byte behind", HomBench.NONE, x.written(g, length));
            Check.due("the greatest index", HomBench.NONE, x.written(g, Integer.MAX_VALUE));
            int[] negative = {-1, -2, Integer.MIN_VALUE};
            for (int index : negative) {
                Check.refused("index " + index, "IllegalArgumentException", Benches::sizes, y -> y.written(g, index));
            }
        }
    }
}
