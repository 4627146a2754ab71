/** The five examples of the document. */
final class ExamplesTest {
    public static void main(String[] args) {
        coloringsOfACycle();
        weights();
        cycleOfFour();
        unionAndCore();
        errors();
        Check.finish("ExamplesTest");
    }

    private static void coloringsOfACycle() {
        HomBench x = new HomBench();
        Check.due("make", 5, x.make(0, 1, 5));
        Check.due("make", 3, x.make(1, 2, 3));
        Check.due("count", 30, x.count(0, 1, 0));
        Check.due("count", 30, x.count(0, 1, 4));
        Check.due("image", 2, x.image(0, 1, 4));
        Check.due("chromatic", 3, x.chromatic(0));
        Check.due("automorphisms", 10, x.automorphisms(0));
    }

    private static void weights() {
        HomBench x = new HomBench();
        Check.due("make", 2, x.make(0, 0, 3));
        Check.due("setSize", 0, x.setSize(1, 2));
        Check.due("setEdge", 0, x.setEdge(1, 0, 1, 2));
        Check.due("setVertex", 1, x.setVertex(1, 0, -3));
        Check.due("count", 2, x.count(0, 1, 0));
        Check.due("count", 24, x.count(0, 1, 1));
        Check.due("count", 0, x.count(0, 1, 2));
    }

    private static void cycleOfFour() {
        HomBench x = new HomBench();
        Check.due("make", 4, x.make(0, 1, 4));
        Check.due("width", 1, x.width(0, 1324, true));
        Check.due("width", 2, x.width(0, 0, false));
        Check.due("treewidth", 2, x.treewidth(0));
        Check.due("folds", 4, x.folds(0, 0));
        Check.due("dismantle", 2, x.dismantle(0));
        Check.due("graph", 2, x.graph(0, 0));
    }

    private static void unionAndCore() {
        HomBench x = new HomBench();
        Check.due("make", 3, x.make(0, 2, 3));
        Check.due("make", 2, x.make(1, 0, 3));
        Check.due("combine", 6, x.combine(2, 0, 1, 0));
        Check.due("coreSize", 3, x.coreSize(2));
        Check.due("count", 72, x.count(2, 0, 0));
        Check.due("compare", 1, x.compare(1, 0));
        Check.due("density", 9, x.density(1, 0, 1));
    }

    private static void errors() {
        HomBench x = new HomBench();
        Check.due("append", 1, x.append(50));
        Check.due("append", 2, x.append(59));
        Check.due("append", 3, x.append(48));
        Check.due("append", 4, x.append(50));
        Check.due("parse", -13, x.parse(0));
        Check.noArgument("setSize", () -> x.setSize(0, 9));
        Check.noArgument("count", () -> x.count(0, 0, 7));
        Check.noState("undo", () -> x.undo());
    }
}
