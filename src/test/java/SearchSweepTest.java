import java.util.Random;

/** The searches for homomorphisms and bijections on many drawn graphs, beside the lists of NaiveBench. */
final class SearchSweepTest {
    private final Random draw;
    private final HomBench bench = new HomBench();
    private final NaiveBench naive = new NaiveBench();
    private final String run;

    private SearchSweepTest(int seed) {
        draw = new Random(seed);
        run = "sweep " + seed + ": ";
    }

    public static void main(String[] args) {
        int sweeps = args.length > 0 ? Integer.parseInt(args[0]) : 4000;
        for (int seed = 1; seed <= sweeps; seed++) {
            new SearchSweepTest(seed).homomorphisms();
            new SearchSweepTest(seed).bijections();
        }
        for (int seed = 1; seed <= 40; seed++) {
            new SearchSweepTest(seed).regularGraphs();
        }
        Check.finish("SearchSweepTest");
    }

    private void same(String call, Check.Call asked, Check.Call due) {
        Check.due(run + call, Check.outcome(due), Check.outcome(asked));
    }

    private void setEdge(int graph, int u, int v, int weight) {
        bench.setEdge(graph, u, v, weight);
        naive.setEdge(graph, u, v, weight);
    }

    private void drawGraph(int graph, int size) {
        bench.setSize(graph, size);
        naive.setSize(graph, size);
        int percent = 15 + draw.nextInt(75);
        int loopPercent = draw.nextInt(3) * 15;
        for (int u = 0; u < size; u++) {
            for (int v = 0; v <= u; v++) {
                if (draw.nextInt(100) < (u == v ? loopPercent : percent)) {
                    setEdge(graph, u, v, 1);
                }
            }
        }
    }

    private void homomorphisms() {
        int size = 2 + draw.nextInt(6);
        drawGraph(0, size);
        drawGraph(1, 1 + draw.nextInt(7));
        same("compare", () -> bench.compare(0, 1), () -> naive.compare(0, 1));
        same("coreSize", () -> bench.coreSize(0), () -> naive.coreSize(0));
        for (int v = 0; v < size; v++) {
            int vertex = v;
            same("image of " + v, () -> bench.image(0, 1, vertex), () -> naive.image(0, 1, vertex));
        }
    }

    private void bijections() {
        int size = 3 + draw.nextInt(4);
        drawGraph(0, size);
        if (draw.nextBoolean()) {
            setEdge(0, draw.nextInt(size), draw.nextInt(size), -2);
        }
        compareWithShuffled(size);
    }

    /** All degrees are the same here, so that only the searches themselves can tell the vertices apart. */
    private void regularGraphs() {
        int size = 8;
        bench.setSize(0, size);
        naive.setSize(0, size);
        int cut = 3 + draw.nextInt(3);
        for (int v = 0; v < size; v++) {
            int first = v < cut ? 0 : cut;
            int length = v < cut ? cut : size - cut;
            setEdge(0, v, first + (v - first + 1) % length, 1);
        }
        if (draw.nextBoolean()) {
            bench.derive(0, 0, 1, 0);
            naive.derive(0, 0, 1, 0);
        }
        compareWithShuffled(size);
    }

    private void compareWithShuffled(int size) {
        same("automorphisms", () -> bench.automorphisms(0), () -> naive.automorphisms(0));
        shuffle(size);
        same("automorphisms of the copy", () -> bench.automorphisms(1), () -> naive.automorphisms(1));
        same("isomorphic", () -> bench.isomorphic(0, 1), () -> naive.isomorphic(0, 1));
        for (int tries = 0; tries < 12; tries++) {
            switchEdges(size);
            same("isomorphic or not", () -> bench.isomorphic(0, 1), () -> naive.isomorphic(0, 1));
            same("automorphisms", () -> bench.automorphisms(1), () -> naive.automorphisms(1));
        }
    }

    private void shuffle(int size) {
        int[] places = new int[size];
        for (int v = 0; v < size; v++) {
            int other = draw.nextInt(v + 1);
            places[v] = places[other];
            places[other] = v;
        }
        bench.setSize(1, size);
        naive.setSize(1, size);
        for (int u = 0; u < size; u++) {
            for (int v = 0; v <= u; v++) {
                setEdge(1, places[u], places[v], naive.edge(0, u, v));
            }
        }
    }

    /** Puts the edges a-b and c-d in the places of a-c and b-d, which keeps all degrees. */
    private void switchEdges(int size) {
        int a = draw.nextInt(size);
        int b = draw.nextInt(size);
        int c = draw.nextInt(size);
        int d = draw.nextInt(size);
        boolean different = a != b && a != c && a != d && b != c && b != d && c != d;
        if (different && naive.edge(1, a, c) == 0 && naive.edge(1, b, d) == 0
                && naive.edge(1, a, b) != 0 && naive.edge(1, a, b) == naive.edge(1, c, d)) {
            int weight = naive.edge(1, a, b);
            setEdge(1, a, b, 0);
            setEdge(1, c, d, 0);
            setEdge(1, a, c, weight);
            setEdge(1, b, d, weight);
        }
    }
}
