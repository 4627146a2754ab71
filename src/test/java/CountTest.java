/** Promises 16, 17 and 22 to 25: counts of maps, densities, colorings, independent sets, walks. */
final class CountTest {
    public static void main(String[] args) {
        emptyGraphs();
        pathToTriangle();
        valuesOfMaps();
        isolatedVertices();
        greatestSums();
        differentEdges();
        countRefuses();
        density();
        densityRefuses();
        colorings();
        chromatic();
        independent();
        walks();
        Check.finish("CountTest");
    }

    private static void counts(HomBench x, int from, int to, long... due) {
        for (int kind = 0; kind < due.length; kind++) {
            Check.due("count(" + from + ", " + to + ", " + kind + ")", due[kind], x.count(from, to, kind));
        }
    }

    private static void emptyGraphs() {
        HomBench x = new HomBench();
        x.make(1, 2, 2);
        counts(x, 0, 0, 1, 1, 1, 1, 1, 1, 1);
        counts(x, 0, 1, 1, 1, 1, 1, 0, 0, 1);
        counts(x, 1, 0, 0, 0, 0, 0, 0, 0, 0);
    }

    private static void pathToTriangle() {
        HomBench x = new HomBench();
        x.make(0, 0, 4);
        x.make(1, 2, 3);
        x.make(2, 4, 3);
        counts(x, 0, 1, 24, 24, 0, 0, 18, 18, 6);
        counts(x, 1, 2, 27, 27, 6, 6, 6, 6, 6);
        counts(x, 2, 1, 0, 0, 0, 0, 0, 0, 0);
        counts(x, 1, 1, 6, 6, 6, 6, 6, 6, 6);
    }

    private static void valuesOfMaps() {
        HomBench x = new HomBench();
        // The weights of the first graph do not matter, those of the second one do, for each edge once.
        Check.read(x, 0, "2;v0=3;v1=0;01=-2");
        Check.read(x, 1, "2;v0=-3;v1=2;00=-1;01=2");
        counts(x, 0, 1, 3, -9 - 12 - 12, 2, -24, 2, -24, 3);
        Check.read(x, 0, "2;00;01");
        counts(x, 0, 1, 2, 9 + 12, 1, 12, 1, 12, 2);
        Check.read(x, 1, "2;v0=0;01");
        Check.read(x, 0, "2;01");
        counts(x, 0, 1, 2, 0, 2, 0, 2, 0, 2);
    }

    private static void isolatedVertices() {
        HomBench x = new HomBench();
        x.setSize(0, 3);
        Check.read(x, 1, "2;v0=3;v1=-2");
        counts(x, 0, 1, 8, 1, 0, 0, 6, 1 - 27 + 8, 8);
        x.setSize(0, 6);
        x.make(1, 4, 8);
        counts(x, 0, 1, 262144, 262144, 20160, 20160, 0, 0, 262144);
        x.setSize(1, 6);
        counts(x, 0, 1, 46656, 46656, 720, 720, 720, 720, 46656);
    }

    private static void greatestSums() {
        HomBench x = new HomBench();
        x.make(0, 4, 6);
        x.setSize(1, 8);
        for (int v = 0; v < 8; v++) {
            x.setVertex(1, v, 3);
            for (int u = 0; u <= v; u++) {
                x.setEdge(1, u, v, 2);
            }
        }
        long value = 729L << 21;
        counts(x, 0, 1, 262144, 262144 * value, 20160, 20160 * value, 0, 0, 20160);
        x.setVertex(1, 7, -3);
        // Each image in vertex 7 changes the sign: the sum of 8 to the sixth becomes (7 - 1) to the sixth.
        Check.due("signs", 46656 * value, x.count(0, 1, 1));
    }

    private static void differentEdges() {
        HomBench x = new HomBench();
        x.make(0, 0, 3);
        Check.read(x, 1, "1;00");
        counts(x, 0, 1, 1, 1, 0, 0, 1, 1, 0);
        Check.read(x, 1, "2;00;01");
        // Of 000, 001, 100, 010, 101 those that use two edges: 001 and 100.
        Check.due("an edge and a loop", 2, x.count(0, 1, 6));
        Check.read(x, 0, "1;00");
        Check.due("a loop is no edge", 1, x.count(0, 1, 6));
        Check.read(x, 0, "2;00;11");
        Check.due("loops may meet", 1, x.count(0, 1, 6));
        Check.read(x, 0, "2;00;01");
        Check.due("an edge may meet a loop", 2, x.count(0, 1, 6));
        Check.read(x, 0, "4;01;23");
        x.make(1, 0, 2);
        Check.due("one edge for two", 0, x.count(0, 1, 6));
        x.make(1, 0, 3);
        Check.due("two edges", 8, x.count(0, 1, 6));
    }

    private static void countRefuses() {
        HomBench x = new HomBench();
        x.setSize(0, 7);
        x.setSize(1, 6);
        Check.noIndex("x", () -> x.count(4, 0, 7));
        Check.noIndex("y", () -> x.count(0, -1, 7));
        Check.noArgument("kind", () -> x.count(0, 0, 7));
        Check.noArgument("kind", () -> x.count(1, 1, -1));
        for (int kind = 0; kind <= 6; kind++) {
            int k = kind;
            Check.noState("x is large", () -> x.count(0, 1, k));
        }
        Check.due("y may be large", 117649, x.count(1, 0, 0));
    }

    private static void densityIs(HomBench x, int from, int to, long numerator, long denominator) {
        Check.due("numerator", numerator, x.density(from, to, 0));
        Check.due("denominator", denominator, x.density(from, to, 1));
    }

    private static void density() {
        HomBench x = new HomBench();
        x.make(0, 1, 5);
        x.make(1, 2, 3);
        densityIs(x, 0, 1, 10, 81);
        densityIs(x, 1, 0, 0, 1);
        densityIs(x, 2, 0, 1, 1);
        x.setSize(2, 6);
        densityIs(x, 2, 0, 1, 1);
        x.make(2, 0, 2);
        densityIs(x, 2, 0, 2, 5);
        Check.read(x, 3, "2;v0=0;v1=-3;01=-2;00=2");
        densityIs(x, 2, 3, 3, 4);
    }

    private static void densityRefuses() {
        HomBench x = new HomBench();
        x.setSize(0, 7);
        x.setSize(1, 6);
        Check.noIndex("x", () -> x.density(4, 0, 2));
        Check.noIndex("y", () -> x.density(0, 4, 2));
        Check.noArgument("part", () -> x.density(0, 2, 2));
        Check.noArgument("part", () -> x.density(1, 1, -1));
        Check.noState("x is large", () -> x.density(0, 1, 0));
        Check.noState("y has no vertices", () -> x.density(1, 2, 1));
        Check.noState("y has no vertices", () -> x.density(2, 2, 0));
    }

    private static void colorings() {
        HomBench x = new HomBench();
        Check.due("nothing", 1, x.colorings(0, 0));
        Check.due("nothing", 1, x.colorings(0, 20));
        x.make(0, 1, 5);
        Check.due("cycle", 0, x.colorings(0, 2));
        Check.due("cycle", 30, x.colorings(0, 3));
        Check.due("cycle", 19L * 19 * 19 * 19 * 19 - 19, x.colorings(0, 20));
        x.setSize(0, 8);
        Check.due("no colors", 0, x.colorings(0, 0));
        Check.due("no edges", 25600000000L, x.colorings(0, 20));
        x.make(0, 2, 8);
        Check.due("complete", 5079110400L, x.colorings(0, 20));
        Check.due("complete", 40320, x.colorings(0, 8));
        Check.due("complete", 0, x.colorings(0, 7));
        x.setEdge(0, 3, 3, -1);
        Check.due("a loop", 0, x.colorings(0, 20));
        Check.noIndex("graph", () -> x.colorings(4, 21));
        Check.noArgument("colors", () -> x.colorings(0, 21));
        Check.noArgument("colors", () -> x.colorings(0, -1));
    }

    private static void chromatic() {
        HomBench x = new HomBench();
        Check.due("nothing", 0, x.chromatic(0));
        x.setSize(0, 8);
        Check.due("no edges", 1, x.chromatic(0));
        x.make(0, 1, 8);
        Check.due("even cycle", 2, x.chromatic(0));
        x.make(0, 1, 7);
        Check.due("odd cycle", 3, x.chromatic(0));
        x.make(0, 2, 8);
        Check.due("complete", 8, x.chromatic(0));
        x.setEdge(0, 7, 7, 2);
        Check.due("a loop", HomBench.NONE, x.chromatic(0));
        Check.noIndex("graph", () -> x.chromatic(-1));
    }

    private static void independent() {
        HomBench x = new HomBench();
        Check.due("nothing", 1, x.independent(0, 0));
        Check.due("nothing", 1, x.independent(0, HomBench.NONE));
        Check.due("nothing", 0, x.independent(0, 1));
        x.make(0, 1, 5);
        int[] due = {1, 5, 5, 0, 0, 0, 0, 0, 0};
        for (int size = 0; size <= 8; size++) {
            Check.due("of size " + size, due[size], x.independent(0, size));
        }
        Check.due("of all sizes", 11, x.independent(0, HomBench.NONE));
        x.setEdge(0, 0, 0, -1);
        Check.due("without the loop", 4, x.independent(0, 1));
        Check.due("without the loop", 3, x.independent(0, 2));
        x.setSize(0, 8);
        Check.due("no edges", 256, x.independent(0, HomBench.NONE));
        Check.due("no edges", 1, x.independent(0, 8));
        Check.noIndex("graph", () -> x.independent(4, 9));
        Check.noArgument("size", () -> x.independent(0, 9));
        Check.noArgument("size", () -> x.independent(0, -2));
    }

    private static void walks() {
        HomBench x = new HomBench();
        Check.due("nothing", 0, x.walks(0, 0, false));
        Check.read(x, 0, "3;v0=3;v1=0;01=2;12=-1;22=-2");
        Check.due("length 0", 3, x.walks(0, 0, false));
        Check.due("length 0", 3, x.walks(0, 0, true));
        Check.due("length 1", 2 + 2 - 1 - 1 - 2, x.walks(0, 1, false));
        Check.due("length 1", -2, x.walks(0, 1, true));
        Check.due("length 2", 4 + 5 + 5, x.walks(0, 2, true));
        Check.due("length 2", 4 + 5 + 5 - 2 - 2 + 2 + 2, x.walks(0, 2, false));
        x.make(0, 4, 8);
        Check.due("all", 1L << 39, x.walks(0, 12, false));
        Check.due("closed", 1L << 36, x.walks(0, 12, true));
        for (int u = 0; u < 8; u++) {
            for (int v = 0; v <= u; v++) {
                x.setEdge(0, u, v, -2);
            }
        }
        Check.due("all", 1L << 51, x.walks(0, 12, false));
        Check.due("all", -(1L << 47), x.walks(0, 11, false));
        Check.due("closed", 1L << 48, x.walks(0, 12, true));
        Check.noIndex("graph", () -> x.walks(4, 13, true));
        Check.noArgument("length", () -> x.walks(0, 13, true));
        Check.noArgument("length", () -> x.walks(0, -1, false));
    }
}
