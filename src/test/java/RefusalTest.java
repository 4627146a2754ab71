/**
 * Calls for which several exceptions apply: the one that is listed first is thrown, and nothing changes. In
 * Benches.sizes graph 0 is large, graph 1 has 6 vertices, graph 2 a single one and graph 3 none.
 */
final class RefusalTest {
    public static void main(String[] args) {
        changes();
        families();
        combine();
        combineTooLarge();
        derive();
        looks();
        orders();
        count();
        density();
        counts();
        searches();
        text();
        fullText();
        undo();
        saveNothing();
        Check.finish("RefusalTest");
    }

    private static void noIndex(String what, Check.BenchCall call) {
        Check.refused(what, "IndexOutOfBoundsException", Benches::sizes, call);
    }

    private static void noArgument(String what, Check.BenchCall call) {
        Check.refused(what, "IllegalArgumentException", Benches::sizes, call);
    }

    private static void noState(String what, Check.BenchCall call) {
        Check.refused(what, "IllegalStateException", Benches::sizes, call);
    }

    private static void changes() {
        noIndex("graph before size", x -> x.setSize(4, 9));
        noIndex("graph before size", x -> x.setSize(-1, -1));
        noIndex("graph before weight", x -> x.setVertex(4, 0, 4));
        noIndex("graph and vertex", x -> x.setVertex(-1, 8, 0));
        noIndex("vertex before weight", x -> x.setVertex(0, 8, 4));
        noIndex("vertex before weight", x -> x.setVertex(3, 0, -4));
        noIndex("graph before weight", x -> x.setEdge(4, 0, 0, 3));
        noIndex("u before weight", x -> x.setEdge(0, 8, 0, 3));
        noIndex("v before weight", x -> x.setEdge(0, 0, 8, -3));
        noIndex("no vertices before weight", x -> x.setEdge(3, 0, 0, 3));
        noIndex("a vertex of another graph", x -> x.setEdge(2, 0, 1, 0));
    }

    private static void families() {
        noIndex("graph before family", x -> x.make(4, 5, 8));
        noIndex("graph before size", x -> x.make(4, 4, 9));
        noArgument("family and size", x -> x.make(0, 5, 9));
        noArgument("family, no size", x -> x.make(0, -1, 0));
        noArgument("size, no family", x -> x.make(0, 0, -1));
        noIndex("graph before size", x -> x.random(-1, 9, 0, 0));
        noIndex("graph before seed", x -> x.random(4, 8, 1000000, 0));
        noIndex("graph before percent", x -> x.random(4, 8, 0, 101));
        noArgument("all but the graph", x -> x.random(0, 9, -1, 101));
        noArgument("a wrong seed for no vertices", x -> x.random(0, 0, 1000000, 0));
        noArgument("a wrong percent for no vertices", x -> x.random(0, 0, 0, 101));
    }

    private static void combine() {
        noIndex("graph before kind", x -> x.combine(4, 3, 3, 3));
        noIndex("x before kind", x -> x.combine(3, 4, 3, 3));
        noIndex("y before kind", x -> x.combine(3, 3, 4, -1));
        noIndex("graph before the number of vertices", x -> x.combine(4, 0, 1, 0));
        noIndex("x before the number of vertices", x -> x.combine(0, 4, 1, 1));
        noIndex("y before the number of vertices", x -> x.combine(0, 1, 4, 2));
        noArgument("kind before the number of vertices", x -> x.combine(0, 0, 1, 3));
        noArgument("kind before the number of vertices", x -> x.combine(0, 0, 0, -1));
    }

    private static void combineTooLarge() {
        noState("a union of 9", x -> x.combine(3, 0, 2, 0));
        noState("a union of 9", x -> x.combine(3, 2, 0, 0));
        noState("a union of 16", x -> x.combine(0, 0, 0, 0));
        for (int each = 1; each <= 2; each++) {
            int kind = each;
            noState("a product of 48", x -> x.combine(3, 0, 1, kind));
            noState("a product of 64", x -> x.combine(0, 0, 0, kind));
            Check.refused("a product of 9", "IllegalStateException", RefusalTest::threes,
                    x -> x.combine(0, 1, 2, kind));
        }
    }

    private static HomBench threes() {
        HomBench x = Benches.sizes();
        x.make(1, 0, 3);
        x.make(2, 1, 3);
        return x;
    }

    private static void derive() {
        noIndex("graph before kind", x -> x.derive(4, 0, 4, 0));
        noIndex("x before kind", x -> x.derive(0, -1, -1, 0));
        noIndex("graph before set", x -> x.derive(4, 0, 0, 1));
        noIndex("x before set", x -> x.derive(0, 4, 2, 256));
        noArgument("kind and set", x -> x.derive(0, 0, 4, 256));
        noArgument("a wrong kind with a set", x -> x.derive(0, 0, 4, 1));
        noArgument("a vertex that x has not, but graph", x -> x.derive(0, 1, 2, 64));
        noArgument("a vertex of no graph", x -> x.derive(1, 0, 2, 256));
        noArgument("a wrong vertex among right ones", x -> x.derive(0, 1, 2, 127));
        noArgument("a vertex of a graph without vertices", x -> x.derive(0, 3, 2, 1));
        noArgument("a set for a copy", x -> x.derive(1, 0, 0, 255));
        noArgument("a set for a complement", x -> x.derive(1, 0, 1, 255));
        noArgument("a set for a core", x -> x.derive(1, 0, 3, 255));
    }

    private static void looks() {
        noIndex("graph before what", x -> x.graph(4, 4));
        noIndex("graph before what", x -> x.vertex(4, 0, 3));
        noIndex("vertex before what", x -> x.vertex(0, 8, 3));
        noIndex("vertex before what", x -> x.vertex(3, 0, -1));
        noIndex("graph and vertices", x -> x.edge(4, 8, 8));
        noIndex("graph and place", x -> x.greedy(4, 8));
        noIndex("graph and vertex", x -> x.bag(4, 8));
        noIndex("graph and vertex", x -> x.folds(4, 8));
    }

    private static void orders() {
        noIndex("graph before order", x -> x.width(4, -1, true));
        noIndex("graph before order", x -> x.width(-1, 9, false));
        int[] wrong = {-1, 1, 7, 12345, 123450, 123457, 112345, 123451, 124565, 543211, 1234567, 1123456, 612345612,
            -123456, Integer.MAX_VALUE, Integer.MIN_VALUE};
        for (int order : wrong) {
            noArgument("order " + order + " of 6 vertices", x -> x.width(1, order, false));
            noArgument("order " + order + " of 6 vertices", x -> x.width(1, order, true));
        }
        int[] wrongOfEight = {8, 1234567, 12345670, 12345679, 12345671, 82345678, 87654329, 112345678, 123456780,
            123456781, 2012345678, -12345678};
        for (int order : wrongOfEight) {
            noArgument("order " + order + " of 8 vertices", x -> x.width(0, order, false));
        }
    }

    private static void count() {
        for (int each = 0; each <= 6; each++) {
            int kind = each;
            noIndex("no such y, and x is large", x -> x.count(0, 4, kind));
            noIndex("no such x", x -> x.count(4, 1, kind));
            noState("x is large", x -> x.count(0, 1, kind));
            noState("x is large, y has no vertices", x -> x.count(0, 3, kind));
            noState("x is large, and y as well", x -> x.count(0, 0, kind));
            Check.refused("x has 7 vertices", "IllegalStateException", RefusalTest::sevens, x -> x.count(1, 0, kind));
        }
        noIndex("x before kind", x -> x.count(4, 0, 7));
        noIndex("y before kind", x -> x.count(0, 4, -1));
        noArgument("kind before a large x", x -> x.count(0, 0, 7));
        noArgument("kind before a large x", x -> x.count(0, 0, -1));
    }

    private static HomBench sevens() {
        HomBench x = Benches.sizes();
        x.setSize(1, 7);
        return x;
    }

    private static void density() {
        for (int each = 0; each <= 1; each++) {
            int part = each;
            noState("x is large", x -> x.density(0, 1, part));
            noState("y has no vertices", x -> x.density(1, 3, part));
            noState("neither has vertices", x -> x.density(3, 3, part));
            noState("x is large and y has no vertices", x -> x.density(0, 3, part));
            noIndex("no such y, and x is large", x -> x.density(0, 4, part));
            noIndex("no such x, and y has no vertices", x -> x.density(-1, 3, part));
            Check.refused("x has 7 vertices", "IllegalStateException", RefusalTest::sevens, x -> x.density(1, 0, part));
        }
        noIndex("graph before part", x -> x.density(4, 0, 2));
        noIndex("graph before part", x -> x.density(1, 4, -1));
        noArgument("part before a large x", x -> x.density(0, 1, 2));
        noArgument("part before an empty y", x -> x.density(1, 3, -1));
    }

    private static void counts() {
        noIndex("graph before colors", x -> x.colorings(4, 21));
        noIndex("graph before colors", x -> x.colorings(-1, -1));
        noIndex("graph before size", x -> x.independent(4, 9));
        noIndex("graph before size", x -> x.independent(-1, -2));
        noIndex("graph before length", x -> x.walks(4, 13, true));
        noIndex("graph before length", x -> x.walks(-1, -1, false));
    }

    private static void searches() {
        noIndex("both graphs", x -> x.isomorphic(4, -1));
        noIndex("both graphs", x -> x.compare(4, -1));
        noIndex("no such y, whatever the sizes", x -> x.isomorphic(3, 4));
        noIndex("no such y, although x has no vertices", x -> x.compare(3, 4));
        noIndex("no such y, although the vertex is there", x -> x.image(0, 4, 0));
        noIndex("no such vertex, although there is no homomorphism", x -> x.image(1, 3, 6));
        noIndex("no such vertex in x, but in y", x -> x.image(1, 0, 6));
    }

    private static void text() {
        noIndex("graph before index", x -> x.written(4, -1));
        noIndex("graph before index", x -> x.written(-1, Integer.MIN_VALUE));
        Check.refused("no such graph, whatever the text", "IndexOutOfBoundsException", RefusalTest::wrongText,
                x -> x.parse(4));
        Check.refused("no such graph, no text", "IndexOutOfBoundsException", RefusalTest::noText, x -> x.parse(-1));
    }

    private static HomBench wrongText() {
        HomBench x = Benches.sizes();
        Benches.write(x, "2;02");
        return x;
    }

    private static HomBench noText() {
        HomBench x = Benches.sizes();
        x.clearText();
        return x;
    }

    private static void fullText() {
        Check.Maker full = RefusalTest::fullBench;
        Check.refused("the text is full", "IllegalStateException", full, x -> x.append('1'));
        Check.refused("the text is full", "IllegalStateException", full, x -> x.append(0));
        Check.refused("value before the full text", "IllegalArgumentException", full, x -> x.append(128));
        Check.refused("value before the full text", "IllegalArgumentException", full, x -> x.append(-1));
    }

    private static HomBench fullBench() {
        HomBench x = Benches.sizes();
        Benches.write(x, "8" + ";01".repeat(38) + ";v7=3");
        return x;
    }

    private static void undo() {
        Check.refused("no saved state", "IllegalStateException", HomBench::new, x -> x.undo());
        Check.refused("no saved state is left", "IllegalStateException", RefusalTest::undone, x -> x.undo());
    }

    private static HomBench undone() {
        HomBench x = Benches.sizes();
        for (int left = 3; left >= 0; left--) {
            Check.due("undo", left, x.undo());
        }
        return x;
    }

    /** With no state saved, a refused call of an undoable method leaves none either. */
    private static void saveNothing() {
        Check.BenchCall[] calls = {x -> x.setSize(0, 9), x -> x.setVertex(0, 0, 0), x -> x.setEdge(0, 0, 0, 0),
            x -> x.make(0, 5, 0), x -> x.random(0, 0, -1, 0), x -> x.combine(0, 0, 0, 3), x -> x.derive(0, 0, 2, 1),
            x -> x.dismantle(4), x -> x.parse(4)};
        HomBench x = new HomBench();
        for (Check.BenchCall call : calls) {
            Check.due("refused", true, Check.outcome(() -> call.answer(x)) instanceof String);
            Check.noState("and nothing is saved", () -> x.undo());
        }
        Check.due("a syntax error", -10, x.parse(0));
        Check.noState("saves nothing", () -> x.undo());
    }
}
