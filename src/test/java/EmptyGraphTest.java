/** What each method answers for a graph without vertices. */
final class EmptyGraphTest {
    public static void main(String[] args) {
        initially();
        made();
        combined();
        derived();
        asked();
        elimination();
        nothingMapsOnce();
        nothingMapsIntoIt();
        density();
        searches();
        colors();
        walks();
        foldsAndCores();
        text();
        Check.finish("EmptyGraphTest");
    }

    private static void initially() {
        HomBench x = new HomBench();
        for (int g = 0; g < 4; g++) {
            for (int what = 0; what <= 3; what++) {
                Check.due("graph(" + g + ", " + what + ")", 0, x.graph(g, what));
            }
            Check.due("written", "0", Check.text(x, g));
        }
        Check.due("the empty text", 0, x.clearText());
        Check.due("the empty text ends too early", -10, x.parse(0));
    }

    private static HomBench four() {
        HomBench x = new HomBench();
        x.make(0, 4, 4);
        x.setVertex(0, 1, -3);
        return x;
    }

    private static void made() {
        HomBench x = four();
        Check.due("setSize", 4, x.setSize(0, 0));
        Check.due("no vertices", "0", Check.text(x, 0));
        Check.due("setSize", 0, x.setSize(0, 0));
        for (int family = 0; family <= 4; family++) {
            Check.due("make", 0, four().make(0, family, 0));
            x = four();
            x.make(0, family, 0);
            Check.due("no vertices", "0", Check.text(x, 0));
        }
        x = four();
        Check.due("random", 0, x.random(0, 0, 999999, 100));
        Check.due("no vertices", "0", Check.text(x, 0));
        Check.due("old weights do not come back", 0, x.setSize(0, 4));
        Check.due("old weights do not come back", "4", Check.text(x, 0));
    }

    private static void combined() {
        HomBench x = new HomBench();
        Check.read(x, 0, "3;v1=2;02=-1;11");
        for (int kind = 0; kind <= 2; kind++) {
            Check.due("nothing with nothing", 0, x.combine(2, 1, 3, kind));
            int due = kind == 0 ? 3 : 0;
            String text = kind == 0 ? "3;v1=2;02=-1;11" : "0";
            Check.due("with nothing", due, x.combine(2, 0, 1, kind));
            Check.due("with nothing", text, Check.text(x, 2));
            Check.due("nothing first", due, x.combine(2, 1, 0, kind));
            Check.due("nothing first", text, Check.text(x, 2));
        }
    }

    private static void derived() {
        HomBench x = new HomBench();
        for (int kind = 0; kind <= 3; kind++) {
            x.make(1, 2, 5);
            Check.due("derive", 0, x.derive(1, 0, kind, 0));
            Check.due("derive", "0", Check.text(x, 1));
        }
        x.make(1, 2, 5);
        Check.due("the empty set", 0, x.derive(1, 1, 2, 0));
        Check.due("the empty set", "0", Check.text(x, 1));
    }

    private static void asked() {
        HomBench x = new HomBench();
        for (int what = 0; what <= 2; what++) {
            int each = what;
            Check.noIndex("it has no vertex", () -> x.vertex(0, 0, each));
        }
        Check.noIndex("it has no vertex", () -> x.edge(0, 0, 0));
        Check.noIndex("it has no vertex", () -> x.folds(0, 0));
        Check.noIndex("it has no vertex", () -> x.image(0, 0, 0));
        Check.noIndex("it has no vertex", () -> x.setVertex(0, 0, 1));
        Check.noIndex("it has no vertex", () -> x.setEdge(0, 0, 0, 1));
    }

    private static void elimination() {
        HomBench x = new HomBench();
        Check.due("treewidth", -1, x.treewidth(0));
        Check.due("width", -1, x.width(0, 0, false));
        Check.due("fill", 0, x.width(0, 0, true));
        Check.noIndex("no place", () -> x.greedy(0, 0));
        Check.noIndex("no bag", () -> x.bag(0, 0));
        x.make(0, 2, 8);
        Check.due("width of another graph", 7, x.width(0, 0, false));
        x.setSize(0, 0);
        Check.due("width afterwards", -1, x.width(0, 0, false));
        Check.due("treewidth afterwards", -1, x.treewidth(0));
    }

    private static void counts(HomBench x, int from, int to, int... due) {
        for (int kind = 0; kind <= 6; kind++) {
            Check.due("count(" + from + ", " + to + ", " + kind + ")", due[kind], x.count(from, to, kind));
        }
    }

    /** Exactly one map into each graph, its value is the empty product, and it is onto only if there is nothing. */
    private static void nothingMapsOnce() {
        HomBench x = new HomBench();
        counts(x, 0, 0, 1, 1, 1, 1, 1, 1, 1);
        counts(x, 0, 1, 1, 1, 1, 1, 1, 1, 1);
        for (int size = 1; size <= 8; size++) {
            x.setSize(1, size);
            x.setVertex(1, 0, 0);
            counts(x, 0, 1, 1, 1, 1, 1, 0, 0, 1);
        }
    }

    private static void nothingMapsIntoIt() {
        HomBench x = new HomBench();
        for (int size = 1; size <= 6; size++) {
            x.setSize(1, size);
            counts(x, 1, 0, 0, 0, 0, 0, 0, 0, 0);
            x.make(1, 4, size);
            counts(x, 1, 0, 0, 0, 0, 0, 0, 0, 0);
        }
    }

    private static void density() {
        HomBench x = new HomBench();
        for (int size = 1; size <= 8; size++) {
            x.setSize(1, size);
            Check.due("one of one map", 1, x.density(0, 1, 0));
            Check.due("one of one map", 1, x.density(0, 1, 1));
        }
        Check.noState("no maps", () -> x.density(2, 0, 0));
        Check.noState("no maps", () -> x.density(2, 0, 1));
    }

    private static void searches() {
        HomBench x = new HomBench();
        Check.due("automorphisms", 1, x.automorphisms(0));
        Check.due("isomorphic", true, x.isomorphic(0, 0));
        Check.due("isomorphic", true, x.isomorphic(0, 3));
        Check.due("compare", 3, x.compare(0, 0));
        Check.due("compare", 3, x.compare(0, 3));
        for (int size = 1; size <= 8; size++) {
            x.make(1, 4, size);
            Check.due("isomorphic", false, x.isomorphic(0, 1));
            Check.due("isomorphic", false, x.isomorphic(1, 0));
            Check.due("compare", 1, x.compare(0, 1));
            Check.due("compare", 2, x.compare(1, 0));
            Check.due("image", HomBench.NONE, x.image(1, 0, 0));
            Check.due("image", HomBench.NONE, x.image(1, 0, size - 1));
        }
    }

    private static void colors() {
        HomBench x = new HomBench();
        for (int colors = 0; colors <= 20; colors++) {
            Check.due("colorings", 1, x.colorings(0, colors));
        }
        Check.due("chromatic", 0, x.chromatic(0));
        Check.due("the empty set", 1, x.independent(0, 0));
        Check.due("all sizes together", 1, x.independent(0, HomBench.NONE));
        for (int size = 1; size <= 8; size++) {
            Check.due("no other set", 0, x.independent(0, size));
        }
    }

    private static void walks() {
        HomBench x = new HomBench();
        for (int length = 0; length <= 12; length++) {
            Check.due("walks", 0, x.walks(0, length, false));
            Check.due("closed walks", 0, x.walks(0, length, true));
        }
    }

    private static void foldsAndCores() {
        HomBench x = new HomBench();
        Check.due("isCore", true, x.isCore(0));
        Check.due("coreSize", 0, x.coreSize(0));
        Check.due("dismantle", 0, x.dismantle(0));
        Check.due("undoable all the same", 0, x.undo());
        Check.due("no vertices", 0, x.graph(0, 0));
    }

    private static void text() {
        HomBench x = new HomBench();
        x.make(0, 4, 8);
        Check.due("parse", 0, Check.read(x, 0, "0"));
        Check.due("no vertices", "0", Check.text(x, 0));
        Check.due("one byte", 48, x.written(0, 0));
        Check.due("and no more", HomBench.NONE, x.written(0, 1));
        Check.due("a semicolon can stand", -12, Check.read(x, 0, "0;"));
        Check.due("a v can stand", -13, Check.read(x, 0, "0;v"));
        Check.due("the vertex digit is the error", -13, Check.read(x, 0, "0;v0=1"));
        Check.due("the vertex digit is the error", -12, Check.read(x, 0, "0;00"));
    }
}
