/** What each method does with a graph of 8 vertices, the most that there are, and around the 6 of a first graph. */
final class FullGraphTest {
    private static final int LAST = 7;
    private static final int ALL = 255;
    private static final int[] BINOMIALS = {1, 8, 28, 56, 70, 56, 28, 8, 1};

    public static void main(String[] args) {
        setSize();
        lastVertex();
        edgesComeAndGo();
        families();
        eightVertices();
        nineVertices();
        productWithItsLastVertex();
        derived();
        sets();
        asked();
        elimination();
        ordersOfTheStar();
        largeGraphs();
        differentEdges();
        ontoSizes();
        density();
        bijections();
        images();
        colors();
        independent();
        walks();
        folds();
        dismantle();
        cores();
        Check.finish("FullGraphTest");
    }

    /** A graph with 8 vertices, of a family. */
    private static HomBench full(int family) {
        HomBench x = new HomBench();
        x.make(0, family, 8);
        return x;
    }

    /** A graph with 8 vertices and no edges. */
    private static HomBench bare() {
        HomBench x = new HomBench();
        x.setSize(0, 8);
        return x;
    }

    private static void setSize() {
        HomBench x = full(4);
        for (int v = 0; v < 8; v++) {
            x.setVertex(0, v, -3);
        }
        Check.due("setSize", 8, x.setSize(0, 8));
        for (int u = 0; u < 8; u++) {
            Check.due("weight", 1, x.vertex(0, u, 0));
            Check.due("no neighbors", 0, x.vertex(0, u, 2));
            for (int v = 0; v < 8; v++) {
                Check.due("no edge", 0, x.edge(0, u, v));
            }
        }
        Check.due("the other graphs stay", 0, x.graph(1, 0));
    }

    private static void lastVertex() {
        HomBench x = bare();
        Check.due("setVertex", 1, x.setVertex(0, LAST, -3));
        Check.due("setVertex", -3, x.setVertex(0, LAST, 3));
        Check.due("its weight", 3, x.vertex(0, LAST, 0));
        Check.due("setEdge", 0, x.setEdge(0, LAST, 0, -2));
        Check.due("in both directions", -2, x.setEdge(0, 0, LAST, 2));
        Check.due("setEdge", 0, x.setEdge(0, LAST, LAST, -2));
        Check.due("setEdge", -2, x.setEdge(0, LAST, LAST, 2));
        Check.due("neighbors", 1 | 1 << LAST, x.vertex(0, LAST, 2));
        Check.due("neighbors", 1 << LAST, x.vertex(0, 0, 2));
        Check.due("written", "8;v7=3;07=2;77=2", Check.text(x, 0));
    }

    private static void edgesComeAndGo() {
        HomBench x = bare();
        for (int u = 0; u < 8; u++) {
            for (int v = 0; v < 8; v++) {
                Check.due("no edge yet", 0, x.setEdge(0, u, v, -1));
                Check.due("a neighbor", 1 << v, x.vertex(0, u, 2));
                Check.due("from both sides", 1 << u, x.vertex(0, v, 2));
                Check.due("the edge", -1, x.setEdge(0, v, u, 0));
                Check.due("no neighbors", 0, x.vertex(0, u, 2));
                Check.due("no neighbors", 0, x.vertex(0, v, 2));
            }
        }
        Check.due("nothing remains", 0, x.graph(0, 1) + x.graph(0, 2));
    }

    private static boolean inFamily(int family, int u, int v) {
        boolean next = Math.abs(u - v) == 1;
        boolean[] joined = {next, next || Math.abs(u - v) == 7, u != v, u != v && u * v == 0, true};
        return joined[family];
    }

    private static void families() {
        int[] edges = {7, 8, 28, 7, 36};
        for (int family = 0; family <= 4; family++) {
            HomBench x = full(0);
            x.setVertex(0, 7, 0);
            Check.due("make", edges[family], x.make(0, family, 8));
            for (int u = 0; u < 8; u++) {
                Check.due("weight", 1, x.vertex(0, u, 0));
                for (int v = 0; v < 8; v++) {
                    int due = inFamily(family, u, v) ? 1 : 0;
                    Check.due("family " + family + " edge " + u + v, due, x.edge(0, u, v));
                }
            }
        }
    }

    private static void combinesTo(int a, int b, int kind, Object due) {
        HomBench x = new HomBench();
        x.setSize(0, a);
        x.setSize(1, b);
        Check.due("combine of " + a + " and " + b, due, Check.outcome(() -> x.combine(2, 0, 1, kind)));
    }

    private static void eightVertices() {
        for (int a = 0; a <= 8; a++) {
            combinesTo(a, 8 - a, 0, 8);
        }
        for (int kind = 1; kind <= 2; kind++) {
            combinesTo(1, 8, kind, 8);
            combinesTo(2, 4, kind, 8);
            combinesTo(4, 2, kind, 8);
            combinesTo(8, 1, kind, 8);
            combinesTo(7, 1, kind, 7);
            combinesTo(8, 0, kind, 0);
            combinesTo(0, 8, kind, 0);
        }
    }

    private static void nineVertices() {
        String refused = "IllegalStateException";
        for (int a = 1; a <= 8; a++) {
            combinesTo(a, 9 - a, 0, refused);
        }
        combinesTo(8, 8, 0, refused);
        for (int kind = 1; kind <= 2; kind++) {
            combinesTo(3, 3, kind, refused);
            combinesTo(2, 5, kind, refused);
            combinesTo(5, 2, kind, refused);
            combinesTo(8, 2, kind, refused);
            combinesTo(8, 8, kind, refused);
        }
    }

    private static void productWithItsLastVertex() {
        HomBench x = new HomBench();
        Check.read(x, 0, "4;v3=-1;33=2;03=-1");
        Check.read(x, 1, "2;v1=2;11=-1;01=2");
        x.combine(2, 0, 1, 1);
        Check.due("weight of the last vertex", -2, x.vertex(2, LAST, 0));
        Check.due("its loop", -2, x.edge(2, LAST, LAST));
        Check.due("its neighbors", 0b11000011, x.vertex(2, LAST, 2));
        x.combine(2, 0, 1, 2);
        Check.due("its loop in the strong product", 1, x.edge(2, LAST, LAST));
        Check.due("loops in the strong product", 8, x.graph(2, 2));
    }

    private static void derived() {
        HomBench x = full(2);
        Check.due("complement", 8, x.derive(1, 0, 1, 0));
        Check.due("no edges", "8", Check.text(x, 1));
        Check.due("complement", 8, x.derive(1, 1, 1, 0));
        Check.due("28 edges", 28, x.graph(1, 1));
        Check.due("no loops", 0, x.graph(1, 2));
        Check.due("the core of a core", 8, x.derive(1, 0, 3, 0));
        Check.due("the same graph", Check.text(x, 0), Check.text(x, 1));
        x.make(0, 4, 8);
        Check.due("loops fall", 8, x.derive(1, 0, 1, 0));
        Check.due("loops fall", "8", Check.text(x, 1));
        Check.due("the core of all loops", 1, x.derive(1, 0, 3, 0));
        Check.due("the core of all loops", "1;00", Check.text(x, 1));
    }

    private static void sets() {
        HomBench x = full(0);
        x.setVertex(0, LAST, -3);
        Check.due("all vertices", 8, x.derive(1, 0, 2, ALL));
        Check.due("all vertices", Check.text(x, 0), Check.text(x, 1));
        Check.due("the last vertex", 1, x.derive(1, 0, 2, 1 << LAST));
        Check.due("the last vertex", "1;v0=-3", Check.text(x, 1));
        Check.due("the first vertex", 1, x.derive(1, 0, 2, 1));
        Check.due("the first vertex", "1", Check.text(x, 1));
        Check.due("the last edge", 2, x.derive(1, 0, 2, 1 << LAST | 1 << LAST - 1));
        Check.due("the last edge", "2;v1=-3;01", Check.text(x, 1));
        Check.due("no vertex", 0, x.derive(1, 0, 2, 0));
    }

    private static void asked() {
        HomBench x = full(4);
        int[] due = {8, 28, 8, 1};
        for (int what = 0; what <= 3; what++) {
            Check.due("graph of all edges", due[what], x.graph(0, what));
        }
        Check.due("the greatest degree", 8, x.vertex(0, LAST, 1));
        Check.due("all neighbors", ALL, x.vertex(0, LAST, 2));
        x.setSize(0, 8);
        Check.due("eight components", 8, x.graph(0, 3));
        Check.due("the least degree", 0, x.vertex(0, LAST, 1));
        x.setEdge(0, 0, LAST, -1);
        Check.due("seven components", 7, x.graph(0, 3));
        x.setEdge(0, 3, 3, 1);
        Check.due("a loop joins nothing", 7, x.graph(0, 3));
        x.setEdge(0, 2, 5, 1);
        x.setEdge(0, 5, 1, 1);
        Check.due("five components", 5, x.graph(0, 3));
    }

    private static void elimination() {
        HomBench x = full(4);
        for (int v = 0; v < 8; v++) {
            Check.due("the lowest of several", v, x.greedy(0, v));
            Check.due("bag of " + v, ALL & -(1 << v), x.bag(0, v));
        }
        Check.due("treewidth", 7, x.treewidth(0));
        Check.due("width", 7, x.width(0, 0, false));
        Check.due("fill", 0, x.width(0, 0, true));
        x.setSize(0, 8);
        for (int v = 0; v < 8; v++) {
            Check.due("the lowest of several", v, x.greedy(0, v));
            Check.due("bag of " + v, 1 << v, x.bag(0, v));
        }
        Check.due("treewidth without edges", 0, x.treewidth(0));
        Check.due("width without edges", 0, x.width(0, 87654321, false));
    }

    private static void ordersOfTheStar() {
        HomBench x = full(3);
        Check.due("the first of all orders", 7, x.width(0, 12345678, false));
        Check.due("all pairs of leaves", 21, x.width(0, 12345678, true));
        Check.due("the last of all orders", 1, x.width(0, 87654321, false));
        Check.due("nothing is added", 0, x.width(0, 87654321, true));
        Check.due("one leaf first", 6, x.width(0, 21345678, false));
        Check.due("one leaf first", 15, x.width(0, 81234567, true));
        Check.due("treewidth", 1, x.treewidth(0));
        Check.due("the bag of the center", 0b10000001, x.bag(0, 0));
        Check.due("the last vertex", LAST, x.greedy(0, LAST));
        Check.due("the center before it", 0, x.greedy(0, LAST - 1));
    }

    /** A first graph may have 6 vertices and not 7; the second one may have 8. */
    private static void largeGraphs() {
        HomBench x = full(4);
        x.make(1, 2, 6);
        // Two vertices with the same image would put two edges on one, so of kind 6 are the injective maps here.
        long[] due = {262144, 262144, 20160, 20160, 0, 0, 20160};
        long[] free = {262144, 262144, 20160, 20160, 0, 0, 262144};
        for (int kind = 0; kind <= 6; kind++) {
            Check.due("6 into 8", due[kind], x.count(1, 0, kind));
        }
        x.setSize(1, 6);
        for (int kind = 0; kind <= 6; kind++) {
            Check.due("6 without edges into 8", free[kind], x.count(1, 0, kind));
        }
        for (int size = 7; size <= 8; size++) {
            x.setSize(1, size);
            for (int kind = 0; kind <= 6; kind++) {
                int each = kind;
                Check.noState(size + " vertices are too many", () -> x.count(1, 0, each));
            }
        }
    }

    /** Two edges that do not meet, into a graph with an edge and a loop at the last vertices. */
    private static void differentEdges() {
        HomBench x = bare();
        x.setEdge(0, 0, LAST - 1, 1);
        x.setEdge(0, LAST, LAST, 1);
        Check.read(x, 1, "4;01;23");
        Check.due("one each", 4, x.count(1, 0, 6));
        Check.due("and one for both", 9, x.count(1, 0, 0));
        x.setEdge(0, LAST, LAST - 1, 2);
        // Of 5 * 5 maps 2 * 2 use each of the two edges for both, and one uses the loop for both.
        Check.due("three different ones", 25 - 4 - 4 - 1, x.count(1, 0, 6));
    }

    /** Maps from 6 vertices onto 1 to 8: k! times the number of partitions into k classes. */
    private static void ontoSizes() {
        HomBench x = new HomBench();
        x.setSize(0, 6);
        int[] due = {0, 1, 62, 540, 1560, 1800, 720, 0, 0};
        for (int size = 0; size <= 8; size++) {
            x.setSize(1, size);
            Check.due("onto " + size, due[size], x.count(0, 1, 4));
            Check.due("onto " + size, due[size], x.count(0, 1, 5));
        }
    }

    private static void density() {
        HomBench x = full(2);
        x.make(1, 2, 6);
        Check.due("20160 of 262144", 315, x.density(1, 0, 0));
        Check.due("20160 of 262144", 4096, x.density(1, 0, 1));
        x.setSize(0, 8);
        Check.due("none", 0, x.density(1, 0, 0));
        Check.due("none", 1, x.density(1, 0, 1));
        x.make(0, 4, 8);
        Check.due("all", 1, x.density(1, 0, 0));
        Check.due("all", 1, x.density(1, 0, 1));
        x.setSize(0, 8);
        x.setEdge(0, LAST, LAST, -2);
        Check.due("one", 1, x.density(1, 0, 0));
        Check.due("one", 262144, x.density(1, 0, 1));
    }

    private static void bijections() {
        HomBench x = full(4);
        Check.due("all", 40320, x.automorphisms(0));
        x.make(1, 4, 8);
        Check.due("isomorphic", true, x.isomorphic(0, 1));
        x.setEdge(1, LAST, LAST, 2);
        Check.due("the last loop", false, x.isomorphic(0, 1));
        Check.due("the last loop", 5040, x.automorphisms(1));
        x.setEdge(0, 0, 0, 2);
        Check.due("the first loop", true, x.isomorphic(0, 1));
        x.setVertex(0, 0, 2);
        Check.due("weights", false, x.isomorphic(0, 1));
        x.setVertex(1, LAST, 2);
        Check.due("weights", true, x.isomorphic(0, 1));
        x.setVertex(1, LAST - 1, 2);
        x.setVertex(1, LAST, 1);
        Check.due("another vertex", false, x.isomorphic(0, 1));
        x.setSize(1, 7);
        x.setSize(0, 8);
        Check.due("7 and 8", false, x.isomorphic(0, 1));
        Check.due("8 and 7", false, x.isomorphic(1, 0));
    }

    private static void images() {
        HomBench x = full(2);
        x.make(1, 2, 7);
        for (int v = 0; v < 8; v++) {
            Check.due("8 into 8", v, x.image(0, 0, v));
            Check.due("8 into 7", HomBench.NONE, x.image(0, 1, v));
        }
        Check.due("7 into 8", 6, x.image(1, 0, 6));
        Check.due("compare", 2, x.compare(0, 1));
        x.setSize(1, 8);
        Check.due("no edge", HomBench.NONE, x.image(0, 1, 0));
        x.setEdge(1, LAST, LAST, -1);
        for (int v = 0; v < 8; v++) {
            Check.due("only the last loop", LAST, x.image(0, 1, v));
        }
        Check.due("onto the loop", 1, x.compare(0, 1));
        x.setEdge(1, 0, 0, -1);
        Check.due("the first of two loops", 0, x.image(0, 1, LAST));
    }

    private static void colors() {
        HomBench x = full(2);
        Check.due("chromatic", 8, x.chromatic(0));
        Check.due("one color too few", 0, x.colorings(0, 7));
        Check.due("enough colors", 40320, x.colorings(0, 8));
        Check.due("nine colors", 362880, x.colorings(0, 9));
        Check.due("the most colors", 20L * 19 * 18 * 17 * 16 * 15 * 14 * 13, x.colorings(0, 20));
        x.setEdge(0, LAST, LAST, -1);
        Check.due("a loop", HomBench.NONE, x.chromatic(0));
        for (int colors = 0; colors <= 20; colors++) {
            Check.due("a loop", 0, x.colorings(0, colors));
        }
        x.setSize(0, 8);
        Check.due("chromatic without edges", 1, x.chromatic(0));
        Check.due("no colors", 0, x.colorings(0, 0));
        Check.due("one color", 1, x.colorings(0, 1));
        Check.due("two colors", 256, x.colorings(0, 2));
        x.setEdge(0, 0, LAST, -2);
        Check.due("chromatic with an edge", 2, x.chromatic(0));
        Check.due("one color", 0, x.colorings(0, 1));
        Check.due("two colors", 128, x.colorings(0, 2));
    }

    private static void independent() {
        HomBench x = bare();
        Check.due("all sets", 256, x.independent(0, HomBench.NONE));
        for (int size = 0; size <= 8; size++) {
            Check.due("of size " + size, BINOMIALS[size], x.independent(0, size));
        }
        x.make(0, 2, 8);
        Check.due("one vertex at most", 9, x.independent(0, HomBench.NONE));
        Check.due("one vertex", 8, x.independent(0, 1));
        Check.due("two vertices", 0, x.independent(0, 2));
        x.make(0, 4, 8);
        Check.due("the empty set", 1, x.independent(0, HomBench.NONE));
        Check.due("the empty set", 1, x.independent(0, 0));
        Check.due("no vertex", 0, x.independent(0, 1));
        x.setSize(0, 7);
        Check.due("more than there are", 0, x.independent(0, 8));
        Check.due("all that there are", 1, x.independent(0, 7));
    }

    private static void walks() {
        HomBench x = full(4);
        long power = 8;
        for (int length = 0; length <= 12; length++) {
            Check.due("all walks of length " + length, power, x.walks(0, length, false));
            Check.due("closed ones", length == 0 ? 8 : power / 8, x.walks(0, length, true));
            power *= 8;
        }
        x.setSize(0, 8);
        Check.due("length 0 needs no edges", 8, x.walks(0, 0, true));
        Check.due("no edges", 0, x.walks(0, 1, true));
        x.setEdge(0, LAST, LAST, -2);
        Check.due("one loop, twelve times", 4096, x.walks(0, 12, true));
        Check.due("one loop, eleven times", -2048, x.walks(0, 11, false));
    }

    private static void folds() {
        HomBench x = bare();
        for (int v = 0; v < 8; v++) {
            Check.due("without edges", ALL & ~(1 << v), x.folds(0, v));
        }
        x.make(0, 4, 8);
        for (int v = 0; v < 8; v++) {
            Check.due("all edges and loops", ALL & ~(1 << v), x.folds(0, v));
        }
        x.make(0, 2, 8);
        for (int v = 0; v < 8; v++) {
            Check.due("no loops", 0, x.folds(0, v));
        }
        x.make(0, 3, 8);
        Check.due("the last leaf", ALL & ~(1 << LAST) & ~1, x.folds(0, LAST));
        Check.due("the center", 0, x.folds(0, 0));
        x.setSize(0, 8);
        x.setEdge(0, 0, 0, -2);
        Check.due("a loop needs a loop", 0, x.folds(0, 0));
        Check.due("without neighbors", ALL & ~(1 << LAST), x.folds(0, LAST));
        x.setEdge(0, LAST, LAST, 1);
        Check.due("a loop onto a loop", 1 << LAST, x.folds(0, 0));
        Check.due("a loop onto a loop", 1, x.folds(0, LAST));
    }

    private static void dismantle() {
        HomBench x = bare();
        x.setVertex(0, LAST, 3);
        Check.due("without edges", 7, x.dismantle(0));
        Check.due("the last one stays", "1;v0=3", Check.text(x, 0));
        Check.due("a single vertex", 0, x.dismantle(0));
        x.make(0, 2, 8);
        Check.due("stiff", 0, x.dismantle(0));
        Check.due("stiff", 28, x.graph(0, 1));
        x.make(0, 0, 8);
        Check.due("a path", 6, x.dismantle(0));
        Check.due("a path", "2;01", Check.text(x, 0));
        x.make(0, 1, 8);
        Check.due("a cycle", 0, x.dismantle(0));
        x.setSize(0, 8);
        x.setEdge(0, 0, 0, 2);
        Check.due("onto the loop", 7, x.dismantle(0));
        Check.due("onto the loop", "1;00=2", Check.text(x, 0));
    }

    private static void cores() {
        int[] sizes = {2, 2, 8, 2, 1};
        for (int family = 0; family <= 4; family++) {
            HomBench x = full(family);
            Check.due("core of family " + family, sizes[family], x.coreSize(0));
            Check.due("core of family " + family, sizes[family] == 8, x.isCore(0));
        }
        Check.due("without edges", 1, bare().coreSize(0));
        Check.due("without edges", false, bare().isCore(0));
        HomBench x = full(2);
        x.setEdge(0, LAST, LAST, -1);
        Check.due("all onto the last loop", 1, x.derive(1, 0, 3, 0));
        Check.due("all onto the last loop", "1;00=-1", Check.text(x, 1));
    }
}
