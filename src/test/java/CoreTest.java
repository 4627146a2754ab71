/** Promises 26 to 29: folds, dismantling, cores. */
final class CoreTest {
    public static void main(String[] args) {
        folds();
        foldsWithLoops();
        dismantle();
        isCore();
        coreSize();
        lowestVerticesGo();
        Check.finish("CoreTest");
    }

    private static void foldsAre(HomBench x, int graph, int... due) {
        for (int v = 0; v < due.length; v++) {
            Check.due("folds of " + v, due[v], x.folds(graph, v));
        }
    }

    private static void folds() {
        HomBench x = new HomBench();
        x.make(0, 1, 4);
        foldsAre(x, 0, 0b0100, 0b1000, 0b0001, 0b0010);
        x.make(0, 0, 4);
        foldsAre(x, 0, 0b0100, 0b0000, 0b0000, 0b0010);
        x.make(0, 2, 3);
        foldsAre(x, 0, 0, 0, 0);
        x.setSize(0, 3);
        foldsAre(x, 0, 0b110, 0b101, 0b011);
        Check.noIndex("graph", () -> x.folds(4, 0));
        Check.noIndex("vertex", () -> x.folds(0, 3));
        Check.noIndex("vertex", () -> x.folds(0, -1));
        Check.noIndex("no vertices", () -> x.folds(1, 0));
    }

    private static void foldsWithLoops() {
        HomBench x = new HomBench();
        x.make(0, 4, 3);
        foldsAre(x, 0, 0b110, 0b101, 0b011);
        Check.read(x, 0, "2;00;11");
        foldsAre(x, 0, 0b10, 0b01);
        Check.read(x, 0, "2;00;01");
        foldsAre(x, 0, 0, 0b01);
        // A neighbor takes a vertex only if it has a loop.
        Check.read(x, 0, "2;01");
        foldsAre(x, 0, 0, 0);
        Check.read(x, 0, "3;v0=0;00=-2;02;11=2;12=-1");
        foldsAre(x, 0, 0b010, 0b001, 0);
    }

    private static void dismantle() {
        HomBench x = new HomBench();
        Check.due("nothing", 0, x.dismantle(0));
        Check.due("saved", 0, x.undo());
        Check.read(x, 0, "6;v3=2;v4=-1;01;12;23=2;34;45");
        Check.due("a path", 4, x.dismantle(0));
        Check.due("what remains", "2;v0=-1;01", Check.text(x, 0));
        x.undo();
        Check.due("undoable", 6, x.graph(0, 0));
        x.make(0, 1, 5);
        Check.due("stiff", 0, x.dismantle(0));
        Check.due("stiff", "5;01;04;12;23;34", Check.text(x, 0));
        x.make(0, 1, 6);
        Check.due("stiff, but no core", 0, x.dismantle(0));
        x.setSize(0, 8);
        Check.due("no edges", 7, x.dismantle(0));
        x.make(0, 4, 8);
        Check.due("all loops", 7, x.dismantle(0));
        Check.due("all loops", "1;00", Check.text(x, 0));
        // The lowest goes first: of 0 and 4, which fold onto each other, 4 remains.
        Check.read(x, 0, "5;v4=3;01;12;23;03;14;34");
        Check.due("a lower one goes", 3, x.dismantle(0));
        Check.due("a lower one goes", "2;v1=3;01", Check.text(x, 0));
        long before = x.digest();
        Check.noIndex("graph", () -> x.dismantle(4));
        Check.noIndex("graph", () -> x.dismantle(-1));
        Check.due("nothing changed", before, x.digest());
    }

    private static void isCore() {
        HomBench x = new HomBench();
        Check.due("nothing", true, x.isCore(0));
        x.setSize(0, 1);
        Check.due("one vertex", true, x.isCore(0));
        x.setSize(0, 2);
        Check.due("two vertices", false, x.isCore(0));
        x.make(0, 1, 5);
        Check.due("pentagon", true, x.isCore(0));
        x.make(0, 1, 6);
        Check.due("hexagon", false, x.isCore(0));
        x.make(0, 2, 8);
        Check.due("complete", true, x.isCore(0));
        x.make(0, 4, 1);
        Check.due("a loop", true, x.isCore(0));
        Check.read(x, 0, "6;01;12;23;34;40;50;51;52;53;54");
        Check.due("a wheel with five spokes", true, x.isCore(0));
        Check.read(x, 0, "5;01;12;23;30;40;41;42;43");
        Check.due("a wheel with four spokes", false, x.isCore(0));
        Check.noIndex("graph", () -> x.isCore(4));
    }

    private static void coreSize() {
        HomBench x = new HomBench();
        Check.due("nothing", 0, x.coreSize(0));
        x.setSize(0, 8);
        Check.due("no edges", 1, x.coreSize(0));
        x.make(0, 1, 8);
        Check.due("even cycle", 2, x.coreSize(0));
        Check.due("the graph stays", 8, x.graph(0, 0));
        x.make(0, 1, 7);
        Check.due("odd cycle", 7, x.coreSize(0));
        x.make(1, 2, 3);
        x.make(2, 1, 5);
        x.combine(0, 1, 2, 0);
        Check.due("a triangle takes the pentagon", 3, x.coreSize(0));
        Check.read(x, 0, "3;01;12;20;00");
        Check.due("a loop takes all", 1, x.coreSize(0));
        Check.due("nothing is saved", 3, x.undo());
        Check.noIndex("graph", () -> x.coreSize(-1));
    }

    private static void lowestVerticesGo() {
        HomBench x = new HomBench();
        // Two triangles that share the vertex 2, with weights as names.
        Check.read(x, 0, "5;v0=-3;v1=-2;v2=-1;v3=2;v4=3;01;02;12;23;24;34");
        Check.due("core", 3, x.derive(1, 0, 3, 0));
        Check.due("the lower triangle goes", "3;v0=-1;v1=2;v2=3;01;02;12", Check.text(x, 1));
        Check.read(x, 0, "4;v0=0;v1=2;v2=3;v3=-3;01=2;12=-1;23=-2");
        x.derive(1, 0, 3, 0);
        Check.due("the last edge of a path", "2;v0=3;v1=-3;01=-2", Check.text(x, 1));
    }
}
