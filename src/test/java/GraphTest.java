/** Promises 1 to 11: a new object, how graphs are made and changed, and what they answer about themselves. */
final class GraphTest {
    private static final int MIN = Integer.MIN_VALUE;
    private static final int MAX = Integer.MAX_VALUE;

    public static void main(String[] args) {
        newObject();
        setSize();
        setVertex();
        setEdge();
        make();
        random();
        unions();
        products();
        combineOntoItself();
        combineRefuses();
        derive();
        deriveRefuses();
        graph();
        vertex();
        edge();
        Check.finish("GraphTest");
    }

    private static void newObject() {
        Check.due("NONE", -1, HomBench.NONE);
        HomBench x = new HomBench();
        for (int g = 0; g < 4; g++) {
            Check.due("size", 0, x.graph(g, 0));
        }
        Check.due("text", 0, x.clearText());
        Check.noState("nothing is saved", () -> x.undo());
        HomBench other = new HomBench();
        x.make(0, 2, 3);
        Check.due("another object", 0, other.graph(0, 0));
    }

    private static void setSize() {
        HomBench x = new HomBench();
        Check.due("setSize", 0, x.setSize(2, 8));
        x.setVertex(2, 7, 3);
        x.setEdge(2, 0, 7, 2);
        Check.due("setSize", 8, x.setSize(2, 8));
        Check.due("weights are 1, no edges", "8", Check.text(x, 2));
        Check.due("setSize", 8, x.setSize(2, 0));
        Check.due("no vertices", "0", Check.text(x, 2));
        x.make(2, 2, 2);
        long before = x.digest();
        Check.noIndex("graph", () -> x.setSize(4, 1));
        Check.noIndex("graph", () -> x.setSize(-1, 1));
        Check.noIndex("graph comes first", () -> x.setSize(MIN, 9));
        Check.noArgument("size", () -> x.setSize(2, 9));
        Check.noArgument("size", () -> x.setSize(2, -1));
        Check.noArgument("size", () -> x.setSize(2, MAX));
        Check.due("nothing changed", before, x.digest());
        x.setSize(2, 1);
        x.undo();
        Check.due("undoable", "2;01", Check.text(x, 2));
    }

    private static void setVertex() {
        HomBench x = new HomBench();
        x.make(1, 0, 3);
        Check.due("setVertex", 1, x.setVertex(1, 2, -3));
        Check.due("setVertex", -3, x.setVertex(1, 2, 3));
        Check.due("setVertex", 3, x.setVertex(1, 2, 0));
        Check.due("setVertex", 1, x.setVertex(1, 0, 1));
        Check.due("the graph", "3;v2=0;01;12", Check.text(x, 1));
        long before = x.digest();
        Check.noIndex("graph", () -> x.setVertex(4, 0, 0));
        Check.noIndex("vertex", () -> x.setVertex(1, 3, 0));
        Check.noIndex("vertex", () -> x.setVertex(1, -1, 0));
        Check.noIndex("vertex comes first", () -> x.setVertex(0, 0, 9));
        Check.noArgument("weight", () -> x.setVertex(1, 0, 4));
        Check.noArgument("weight", () -> x.setVertex(1, 0, -4));
        Check.due("nothing changed", before, x.digest());
        Check.due("saved even without a change", 3, x.undo());
        Check.due("the same graph", "3;v2=0;01;12", Check.text(x, 1));
        x.undo();
        Check.due("undoable", "3;v2=3;01;12", Check.text(x, 1));
    }

    private static void setEdge() {
        HomBench x = new HomBench();
        x.setSize(3, 3);
        Check.due("setEdge", 0, x.setEdge(3, 2, 0, -2));
        Check.due("the other direction", -2, x.setEdge(3, 0, 2, 2));
        Check.due("setEdge", 2, x.edge(3, 2, 0));
        Check.due("a loop", 0, x.setEdge(3, 1, 1, 1));
        Check.due("a loop", 1, x.setEdge(3, 1, 1, -1));
        Check.due("the graph", "3;02=2;11=-1", Check.text(x, 3));
        Check.due("an edge goes", 2, x.setEdge(3, 2, 0, 0));
        Check.due("no neighbors", 0, x.vertex(3, 0, 2));
        Check.due("no neighbors", 0, x.vertex(3, 2, 2));
        Check.due("a loop goes", -1, x.setEdge(3, 1, 1, 0));
        Check.due("no neighbors", 0, x.vertex(3, 1, 2));
        long before = x.digest();
        Check.noIndex("graph", () -> x.setEdge(-1, 0, 0, 0));
        Check.noIndex("u", () -> x.setEdge(3, 3, 0, 0));
        Check.noIndex("v", () -> x.setEdge(3, 0, 3, 0));
        Check.noIndex("u", () -> x.setEdge(3, -1, 0, 0));
        Check.noIndex("v comes first", () -> x.setEdge(3, 0, MIN, 3));
        Check.noArgument("weight", () -> x.setEdge(3, 0, 0, 3));
        Check.noArgument("weight", () -> x.setEdge(3, 0, 1, -3));
        Check.due("nothing changed", before, x.digest());
        x.undo();
        Check.due("undoable", "3;11=-1", Check.text(x, 3));
    }

    private static void make() {
        HomBench x = new HomBench();
        x.setSize(0, 8);
        x.setVertex(0, 0, 2);
        made(x, 0, 4, 3, "4;01;12;23");
        made(x, 1, 4, 4, "4;01;03;12;23");
        made(x, 1, 3, 3, "3;01;02;12");
        made(x, 1, 2, 1, "2;01");
        made(x, 1, 1, 0, "1");
        made(x, 2, 3, 3, "3;01;02;12");
        made(x, 3, 4, 3, "4;01;02;03");
        made(x, 3, 1, 0, "1");
        made(x, 4, 3, 6, "3;00;01;02;11;12;22");
        made(x, 4, 1, 1, "1;00");
        for (int family = 0; family <= 4; family++) {
            made(x, family, 0, 0, "0");
        }
        int[] most = {7, 8, 28, 7, 36};
        for (int family = 0; family <= 4; family++) {
            Check.due("make with 8", most[family], x.make(1, family, 8));
        }
        long before = x.digest();
        Check.noIndex("graph", () -> x.make(4, 5, 9));
        Check.noArgument("family", () -> x.make(0, 5, 0));
        Check.noArgument("family", () -> x.make(0, -1, 0));
        Check.noArgument("size", () -> x.make(0, 0, 9));
        Check.noArgument("size", () -> x.make(0, 0, -1));
        Check.due("nothing changed", before, x.digest());
        x.undo();
        Check.due("undoable", 7, x.graph(1, 1));
    }

    private static void made(HomBench x, int family, int size, int edges, String text) {
        Check.due("make", edges, x.make(0, family, size));
        Check.due("what it made", text, Check.text(x, 0));
    }

    private static void random() {
        HomBench x = new HomBench();
        x.make(0, 4, 8);
        // With the seed 1 the numbers are 38, 58, 13, 15, 51, 27.
        Check.due("random", 2, x.random(0, 4, 1, 27));
        Check.due("it", "4;03;12", Check.text(x, 0));
        Check.due("random", 3, x.random(0, 4, 1, 28));
        Check.due("it", "4;03;12;23", Check.text(x, 0));
        Check.due("random", 4, x.random(0, 4, 1, 39));
        Check.due("it", "4;01;03;12;23", Check.text(x, 0));
        Check.due("random", 6, x.random(0, 4, 1, 100));
        Check.due("random", 0, x.random(0, 8, 999999, 0));
        Check.due("random", 28, x.random(0, 8, 999999, 100));
        Check.due("random", 0, x.random(0, 0, 0, 100));
        long before = x.digest();
        Check.noIndex("graph", () -> x.random(4, 9, -1, -1));
        Check.noArgument("size", () -> x.random(0, 9, 0, 0));
        Check.noArgument("size", () -> x.random(0, -1, 0, 0));
        Check.noArgument("seed", () -> x.random(0, 1, 1000000, 0));
        Check.noArgument("seed", () -> x.random(0, 1, -1, 0));
        Check.noArgument("percent", () -> x.random(0, 1, 0, 101));
        Check.noArgument("percent", () -> x.random(0, 1, 0, -1));
        Check.due("nothing changed", before, x.digest());
        x.undo();
        Check.due("undoable", 28, x.graph(0, 1));
    }

    private static void unions() {
        HomBench x = new HomBench();
        Check.read(x, 0, "2;v1=-3;01=2;11=-1");
        Check.read(x, 1, "3;v0=0;02=-2;11");
        Check.due("union", 5, x.combine(2, 0, 1, 0));
        Check.due("union", "5;v1=-3;v2=0;01=2;11=-1;24=-2;33", Check.text(x, 2));
        Check.due("union", 5, x.combine(2, 1, 0, 0));
        Check.due("union", "5;v0=0;v4=-3;02=-2;11;34=2;44=-1", Check.text(x, 2));
        Check.due("with an empty one", 2, x.combine(2, 0, 3, 0));
        Check.due("with an empty one", "2;v1=-3;01=2;11=-1", Check.text(x, 2));
        x.setSize(3, 6);
        Check.due("eight vertices", 8, x.combine(2, 3, 0, 0));
        x.undo();
        Check.due("undoable", 2, x.graph(2, 0));
    }

    private static void products() {
        HomBench x = new HomBench();
        Check.read(x, 0, "2;v0=2;v1=-3;00;01=-2");
        Check.read(x, 1, "2;v0=3;v1=-1;01=2;11=-1");
        Check.due("tensor", 4, x.combine(2, 0, 1, 1));
        Check.due("tensor", "4;v0=3;v1=-2;v2=-3;v3=3;01=2;03=-2;11=-1;12=-2;13=2", Check.text(x, 2));
        Check.due("strong", 4, x.combine(2, 0, 1, 2));
        Check.due("strong",
                "4;v0=3;v1=-2;v2=-3;v3=3;00;01=2;02=-2;03=-2;11;12=-2;13=-2;22;23=2;33", Check.text(x, 2));
        x.make(0, 2, 2);
        x.make(1, 2, 4);
        Check.due("eight vertices", 8, x.combine(2, 1, 0, 1));
        Check.due("edges", 12, x.graph(2, 1));
        Check.due("loops", 0, x.graph(2, 2));
        x.combine(2, 1, 0, 2);
        Check.due("strong edges", 28, x.graph(2, 1));
        Check.due("strong loops", 8, x.graph(2, 2));
        x.setSize(3, 0);
        Check.due("with an empty one", 0, x.combine(2, 3, 1, 1));
        Check.due("with an empty one", 0, x.combine(2, 1, 3, 2));
    }

    private static void combineOntoItself() {
        HomBench x = new HomBench();
        Check.read(x, 0, "2;v1=2;01=-1");
        x.combine(0, 0, 0, 0);
        Check.due("union with itself", "4;v1=2;v3=2;01=-1;23=-1", Check.text(x, 0));
        x.undo();
        x.combine(0, 0, 0, 1);
        Check.due("product with itself", "4;v1=2;v2=2;v3=3;03;12", Check.text(x, 0));
        x.undo();
        Check.due("undoable", "2;v1=2;01=-1", Check.text(x, 0));
        x.make(1, 0, 3);
        x.combine(1, 0, 1, 0);
        Check.due("onto the second", "5;v1=2;01=-1;23;34", Check.text(x, 1));
    }

    private static void combineRefuses() {
        HomBench x = new HomBench();
        x.setSize(0, 3);
        x.setSize(1, 6);
        long before = x.digest();
        Check.noIndex("graph", () -> x.combine(4, 0, 0, 3));
        Check.noIndex("x", () -> x.combine(0, -1, 0, 3));
        Check.noIndex("y", () -> x.combine(0, 0, 4, 3));
        Check.noArgument("kind", () -> x.combine(0, 0, 1, 3));
        Check.noArgument("kind", () -> x.combine(0, 0, 1, -1));
        Check.noState("a union of nine", () -> x.combine(2, 0, 1, 0));
        Check.noState("a product of nine", () -> x.combine(2, 0, 0, 1));
        Check.noState("a product of nine", () -> x.combine(2, 0, 0, 2));
        Check.due("nothing changed", before, x.digest());
    }

    private static void derive() {
        HomBench x = new HomBench();
        Check.read(x, 0, "5;v0=2;v3=-3;00=2;01=-2;03;13=2;24;44=-1");
        Check.due("copy", 5, x.derive(1, 0, 0, 0));
        Check.due("copy", Check.text(x, 0), Check.text(x, 1));
        Check.due("complement", 5, x.derive(1, 0, 1, 0));
        Check.due("complement", "5;v0=2;v3=-3;02;04;12;14;23;34", Check.text(x, 1));
        Check.due("induced", 3, x.derive(1, 0, 2, 0b01011));
        Check.due("induced", "3;v0=2;v2=-3;00=2;01=-2;02;12=2", Check.text(x, 1));
        Check.due("induced, all", 5, x.derive(1, 0, 2, 0b11111));
        Check.due("induced, all", Check.text(x, 0), Check.text(x, 1));
        Check.due("induced, none", 0, x.derive(1, 0, 2, 0));
        Check.due("core: the last loop stays", 1, x.derive(1, 0, 3, 0));
        Check.due("core: the last loop stays", "1;00=-1", Check.text(x, 1));
        x.undo();
        Check.due("undoable", "0", Check.text(x, 1));
        Check.due("onto itself", 2, x.derive(0, 0, 2, 0b10100));
        Check.due("onto itself", "2;01;11=-1", Check.text(x, 0));
        x.make(2, 1, 6);
        Check.due("core of a hexagon", 2, x.derive(2, 2, 3, 0));
        Check.due("core of a hexagon", "2;01", Check.text(x, 2));
    }

    private static void deriveRefuses() {
        HomBench x = new HomBench();
        x.make(0, 0, 3);
        x.make(1, 2, 8);
        long before = x.digest();
        Check.noIndex("graph", () -> x.derive(4, 0, 4, 0));
        Check.noIndex("x", () -> x.derive(0, 4, 4, 0));
        Check.noArgument("kind", () -> x.derive(0, 0, 4, 0));
        Check.noArgument("kind", () -> x.derive(0, 0, -1, 0));
        for (int kind = 0; kind <= 3; kind++) {
            int k = kind;
            if (kind != 2) {
                Check.noArgument("a set without need", () -> x.derive(0, 0, k, 1));
            }
            Check.noArgument("a negative set", () -> x.derive(0, 0, k, -1));
            Check.noArgument("a negative set", () -> x.derive(0, 0, k, MIN));
        }
        Check.noArgument("vertex 3", () -> x.derive(1, 0, 2, 8));
        Check.noArgument("vertex 8", () -> x.derive(0, 1, 2, 256));
        Check.due("nothing changed", before, x.digest());
    }

    private static void graph() {
        HomBench x = new HomBench();
        Check.due("parts of nothing", 0, x.graph(0, 3));
        Check.read(x, 0, "7;01;12;20;33;45=-2;44=2");
        Check.due("vertices", 7, x.graph(0, 0));
        Check.due("edges", 4, x.graph(0, 1));
        Check.due("loops", 2, x.graph(0, 2));
        Check.due("parts", 4, x.graph(0, 3));
        Check.read(x, 0, "8;07;76;65;54;43;32;21");
        Check.due("one part", 1, x.graph(0, 3));
        x.setSize(0, 8);
        Check.due("eight parts", 8, x.graph(0, 3));
        Check.noIndex("graph", () -> x.graph(4, 4));
        Check.noArgument("what", () -> x.graph(0, 4));
        Check.noArgument("what", () -> x.graph(0, -1));
    }

    private static void vertex() {
        HomBench x = new HomBench();
        Check.read(x, 0, "4;v0=-2;00;01=-1;03");
        Check.due("weight", -2, x.vertex(0, 0, 0));
        Check.due("a loop counts once", 3, x.vertex(0, 0, 1));
        Check.due("neighbors", 0b1011, x.vertex(0, 0, 2));
        Check.due("degree", 1, x.vertex(0, 3, 1));
        Check.due("neighbors", 1, x.vertex(0, 3, 2));
        Check.due("alone", 0, x.vertex(0, 2, 1));
        Check.due("alone", 0, x.vertex(0, 2, 2));
        Check.noIndex("graph", () -> x.vertex(-1, 0, 3));
        Check.noIndex("vertex", () -> x.vertex(0, 4, 3));
        Check.noIndex("vertex", () -> x.vertex(0, -1, 0));
        Check.noArgument("what", () -> x.vertex(0, 0, 3));
        Check.noArgument("what", () -> x.vertex(0, 0, -1));
    }

    private static void edge() {
        HomBench x = new HomBench();
        Check.read(x, 0, "3;01=-2;22=2");
        Check.due("edge", -2, x.edge(0, 0, 1));
        Check.due("edge", -2, x.edge(0, 1, 0));
        Check.due("loop", 2, x.edge(0, 2, 2));
        Check.due("no edge", 0, x.edge(0, 1, 2));
        Check.noIndex("graph", () -> x.edge(4, 0, 0));
        Check.noIndex("u", () -> x.edge(0, 3, 0));
        Check.noIndex("v", () -> x.edge(0, 0, 3));
        Check.noIndex("v", () -> x.edge(0, 0, -1));
        Check.noIndex("no vertices", () -> x.edge(1, 0, 0));
    }
}
