/** Promises 12 to 15: the greedy order, widths and fills, the treewidth, bags. */
final class EliminationTest {
    public static void main(String[] args) {
        greedy();
        greedyCountsAddedEdges();
        width();
        widthRefuses();
        treewidth();
        bag();
        Check.finish("EliminationTest");
    }

    private static void greedyIs(HomBench x, int graph, int... order) {
        for (int place = 0; place < order.length; place++) {
            Check.due("greedy at " + place, order[place], x.greedy(graph, place));
        }
    }

    private static void greedy() {
        HomBench x = new HomBench();
        x.make(0, 3, 4);
        greedyIs(x, 0, 1, 2, 0, 3);
        x.make(0, 0, 4);
        greedyIs(x, 0, 0, 1, 2, 3);
        Check.read(x, 0, "4;00;01;02;03;12;33");
        greedyIs(x, 0, 3, 0, 1, 2);
        Check.noIndex("graph", () -> x.greedy(4, 0));
        Check.noIndex("place", () -> x.greedy(0, 4));
        Check.noIndex("place", () -> x.greedy(0, -1));
        Check.noIndex("no vertices", () -> x.greedy(1, 0));
    }

    private static void greedyCountsAddedEdges() {
        HomBench x = new HomBench();
        // In this cycle 0 joins 3 with 4, so these two keep two neighbors, and 1 is next.
        Check.read(x, 0, "5;03;31;12;24;40");
        greedyIs(x, 0, 0, 1, 2, 3, 4);
        Check.due("width", 2, x.width(0, 0, false));
        Check.due("fill", 2, x.width(0, 0, true));
        // In K3,3 the vertex 0 joins 3, 4 and 5, which have four neighbors then.
        Check.read(x, 0, "6;03;04;05;13;14;15;23;24;25");
        greedyIs(x, 0, 0, 1, 2, 3, 4, 5);
        Check.due("bag of 3", 0b111000, x.bag(0, 3));
    }

    private static void width() {
        HomBench x = new HomBench();
        Check.due("no vertices", -1, x.width(0, 0, false));
        Check.due("no vertices", 0, x.width(0, 0, true));
        x.make(0, 3, 5);
        Check.due("the center last", 1, x.width(0, 23451, false));
        Check.due("the center last", 0, x.width(0, 23451, true));
        Check.due("the center first", 4, x.width(0, 12345, false));
        Check.due("the center first", 6, x.width(0, 12345, true));
        Check.due("the center second", 3, x.width(0, 51234, false));
        Check.due("the center second", 3, x.width(0, 51234, true));
        Check.due("greedy", 1, x.width(0, 0, false));
        x.make(0, 4, 8);
        Check.due("all loops", 7, x.width(0, 87654321, false));
        Check.due("all loops", 0, x.width(0, 12345678, true));
        x.setSize(0, 1);
        Check.due("one vertex", 0, x.width(0, 1, false));
    }

    private static void widthRefuses() {
        HomBench x = new HomBench();
        x.make(0, 0, 3);
        Check.noIndex("graph", () -> x.width(4, 999, true));
        int[] wrong = {1, 12, 1234, 124, 120, 112, 322, -123, 1230, 213213213, Integer.MAX_VALUE, Integer.MIN_VALUE};
        for (int order : wrong) {
            Check.noArgument("order " + order, () -> x.width(0, order, true));
        }
        Check.noArgument("an order of nothing", () -> x.width(1, 1, false));
        x.make(2, 0, 8);
        Check.noArgument("nine digits", () -> x.width(2, 112345678, false));
    }

    private static void treewidth() {
        HomBench x = new HomBench();
        Check.due("nothing", -1, x.treewidth(0));
        x.setSize(0, 8);
        Check.due("no edges", 0, x.treewidth(0));
        x.make(0, 0, 8);
        Check.due("path", 1, x.treewidth(0));
        x.make(0, 1, 8);
        Check.due("cycle", 2, x.treewidth(0));
        x.make(0, 2, 8);
        Check.due("complete", 7, x.treewidth(0));
        x.make(0, 4, 5);
        Check.due("loops do not matter", 4, x.treewidth(0));
        Check.read(x, 0, "8;01;12;23;30;45;56;67;74;04;15;26;37");
        Check.due("cube", 3, x.treewidth(0));
        x.make(1, 2, 4);
        x.make(2, 0, 2);
        x.combine(0, 1, 2, 0);
        Check.due("the greatest of the parts", 3, x.treewidth(0));
        // K2,2,2 has treewidth 4.
        Check.read(x, 0, "6;01;23;45");
        x.derive(0, 0, 1, 0);
        Check.due("octahedron", 4, x.treewidth(0));
        Check.noIndex("graph", () -> x.treewidth(4));
        Check.noIndex("graph", () -> x.treewidth(-1));
    }

    private static void bag() {
        HomBench x = new HomBench();
        x.make(0, 1, 5);
        int[] bags = {0b10011, 0b10110, 0b11100, 0b11000, 0b10000};
        for (int v = 0; v < 5; v++) {
            Check.due("bag of " + v, bags[v], x.bag(0, v));
        }
        Check.read(x, 0, "3;00;01;12");
        Check.due("a loop adds nothing", 0b011, x.bag(0, 0));
        Check.noIndex("graph", () -> x.bag(4, 0));
        Check.noIndex("vertex", () -> x.bag(0, 3));
        Check.noIndex("vertex", () -> x.bag(0, -1));
    }
}
