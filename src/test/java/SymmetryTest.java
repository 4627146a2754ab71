/** Promises 18 to 21: automorphisms, isomorphic graphs, the first homomorphism, comparisons. */
final class SymmetryTest {
    public static void main(String[] args) {
        automorphisms();
        weightsBreakSymmetry();
        isomorphic();
        image();
        imageOfLargeGraphs();
        imagesAmongAlikeOnes();
        compare();
        Check.finish("SymmetryTest");
    }

    private static void automorphisms() {
        HomBench x = new HomBench();
        Check.due("nothing", 1, x.automorphisms(0));
        x.setSize(0, 8);
        Check.due("no edges", 40320, x.automorphisms(0));
        x.make(0, 0, 8);
        Check.due("path", 2, x.automorphisms(0));
        x.make(0, 1, 8);
        Check.due("cycle", 16, x.automorphisms(0));
        x.make(0, 2, 8);
        Check.due("complete", 40320, x.automorphisms(0));
        x.make(0, 3, 8);
        Check.due("star", 5040, x.automorphisms(0));
        Check.read(x, 0, "8;01;12;23;30;45;56;67;74;04;15;26;37");
        Check.due("cube", 48, x.automorphisms(0));
        Check.read(x, 0, "7;01;12;23;34;25;56;16");
        Check.due("none but one", 1, x.automorphisms(0));
        Check.noIndex("graph", () -> x.automorphisms(4));
        Check.noIndex("graph", () -> x.automorphisms(-1));
    }

    private static void weightsBreakSymmetry() {
        HomBench x = new HomBench();
        x.make(0, 1, 5);
        x.setVertex(0, 0, 2);
        Check.due("a vertex weight", 2, x.automorphisms(0));
        x.setEdge(0, 0, 1, -1);
        Check.due("an edge weight", 1, x.automorphisms(0));
        x.make(0, 2, 4);
        x.setEdge(0, 3, 3, 1);
        Check.due("a loop", 6, x.automorphisms(0));
        x.setEdge(0, 2, 2, 2);
        Check.due("loops of different weights", 2, x.automorphisms(0));
    }

    private static void isomorphic() {
        HomBench x = new HomBench();
        Check.due("nothing", true, x.isomorphic(0, 1));
        Check.read(x, 0, "4;v0=2;01=-2;12;33");
        Check.read(x, 1, "4;v3=2;13=-2;12;00");
        Check.due("renamed", true, x.isomorphic(0, 1));
        Check.due("itself", true, x.isomorphic(0, 0));
        x.setVertex(1, 3, 1);
        Check.due("a vertex weight", false, x.isomorphic(0, 1));
        x.undo();
        x.setEdge(1, 1, 2, 2);
        Check.due("an edge weight", false, x.isomorphic(0, 1));
        x.undo();
        x.setEdge(1, 0, 0, 0);
        Check.due("a loop", false, x.isomorphic(0, 1));
        x.make(0, 1, 6);
        x.make(2, 1, 3);
        x.combine(1, 2, 2, 0);
        Check.due("a hexagon is not two triangles", false, x.isomorphic(0, 1));
        x.setSize(0, 3);
        x.setSize(1, 4);
        Check.due("sizes", false, x.isomorphic(0, 1));
        Check.due("sizes", false, x.isomorphic(3, 1));
        Check.noIndex("x", () -> x.isomorphic(4, 0));
        Check.noIndex("y", () -> x.isomorphic(0, -1));
    }

    private static void imagesAre(HomBench x, int from, int to, int... due) {
        for (int v = 0; v < due.length; v++) {
            Check.due("image of " + v, due[v], x.image(from, to, v));
        }
    }

    private static void image() {
        HomBench x = new HomBench();
        x.make(0, 1, 5);
        x.make(1, 2, 3);
        imagesAre(x, 0, 1, 0, 1, 0, 1, 2);
        imagesAre(x, 1, 0, -1, -1, -1);
        imagesAre(x, 0, 0, 0, 1, 2, 3, 4);
        imagesAre(x, 1, 3, -1, -1, -1);
        Check.read(x, 2, "3;01;22");
        imagesAre(x, 0, 2, 2, 2, 2, 2, 2);
        Check.read(x, 3, "3;22;01");
        imagesAre(x, 3, 2, 0, 1, 2);
        Check.read(x, 3, "3;12");
        imagesAre(x, 3, 2, 0, 0, 1);
        // Weights other than 0 make no difference, weight 0 of a vertex neither.
        Check.read(x, 2, "2;v0=0;01=-2");
        imagesAre(x, 3, 2, 0, 0, 1);
        Check.noIndex("x", () -> x.image(4, 0, 0));
        Check.noIndex("y", () -> x.image(0, 4, 0));
        Check.noIndex("vertex", () -> x.image(0, 0, 5));
        Check.noIndex("vertex", () -> x.image(0, 0, -1));
        x.setSize(0, 0);
        Check.noIndex("no vertices", () -> x.image(0, 1, 0));
    }

    private static void imageOfLargeGraphs() {
        HomBench x = new HomBench();
        x.make(0, 2, 8);
        imagesAre(x, 0, 0, 0, 1, 2, 3, 4, 5, 6, 7);
        x.make(1, 2, 7);
        imagesAre(x, 0, 1, -1, -1, -1, -1, -1, -1, -1, -1);
        x.make(0, 1, 8);
        imagesAre(x, 0, 1, 0, 1, 0, 1, 0, 1, 0, 1);
        x.make(0, 1, 7);
        imagesAre(x, 0, 1, 0, 1, 0, 1, 0, 1, 2);
        imagesAre(x, 1, 0, -1, -1, -1, -1, -1, -1, -1);
    }

    private static void firstImagesAre(String from, String to, int... due) {
        HomBench x = new HomBench();
        Check.read(x, 0, from);
        Check.read(x, 1, to);
        imagesAre(x, 0, 1, due);
    }

    /** One image may stand for another only if both have the same neighbors and the same vertices may take them. */
    private static void imagesAmongAlikeOnes() {
        firstImagesAre("5;01;02;14;23;24;34", "5;01;02;14;23;24;34", 0, 1, 2, 3, 4);
        firstImagesAre("5;01;03;14;23;24;34", "5;01;03;14;23;24;34", 0, 1, 2, 3, 4);
        firstImagesAre("8;01;03;06;07;16;23;24;25;27;37;46;56;57", "3;01;02;12",
                0, 1, 0, 1, 1, 1, 2, 2);
        firstImagesAre("8;01;03;16;23;25;26;35;37;46;47;56;67", "7;01;25;26;56",
                2, 5, 2, 6, 2, 5, 6, 5);
    }

    private static void compare() {
        HomBench x = new HomBench();
        Check.due("nothing", 3, x.compare(0, 1));
        x.make(0, 1, 5);
        Check.due("nothing maps into it", 2, x.compare(0, 1));
        x.make(1, 2, 3);
        Check.due("forth", 1, x.compare(0, 1));
        Check.due("back", 2, x.compare(1, 0));
        x.make(2, 1, 8);
        Check.due("even and odd cycle", 1, x.compare(2, 0));
        x.make(3, 0, 2);
        Check.due("both", 3, x.compare(2, 3));
        Check.due("itself", 3, x.compare(2, 2));
        // The wheel needs four colors.
        Check.read(x, 2, "6;01;12;23;34;40;50;51;52;53;54");
        Check.due("a wheel and a triangle", 2, x.compare(2, 1));
        Check.read(x, 3, "1;00=-2");
        Check.due("a loop takes all", 1, x.compare(2, 3));
        x.make(2, 2, 4);
        x.make(3, 2, 3);
        Check.due("a triangle maps into K4", 2, x.compare(2, 3));
        Check.noIndex("x", () -> x.compare(-1, 0));
        Check.noIndex("y", () -> x.compare(0, 4));
    }
}
