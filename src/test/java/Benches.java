/** Benches to begin with; each of them has a text and all the saved states that are kept. */
final class Benches {
    static final int LARGE = 0;
    static final int SMALL = 1;
    static final int ONE = 2;
    static final int EMPTY = 3;

    private Benches() {
    }

    /** Four different graphs with two vertices. */
    static HomBench pairs() {
        HomBench x = new HomBench();
        for (int g = 0; g < 4; g++) {
            x.setSize(g, 2);
            x.setVertex(g, 1, g - 2);
            x.setEdge(g, 0, 1, 1);
        }
        x.setEdge(3, 1, 1, -2);
        write(x, "3;v1=2;02=-1");
        return x;
    }

    /** A graph with 8 vertices, one with 6, one with a single vertex and one without vertices. */
    static HomBench sizes() {
        HomBench x = new HomBench();
        x.random(LARGE, 8, 1, 50);
        x.setVertex(LARGE, 7, -3);
        x.setEdge(LARGE, 7, 7, 2);
        x.make(SMALL, 1, 6);
        x.setEdge(SMALL, 5, 0, -2);
        x.make(ONE, 4, 1);
        write(x, "2;11=-2;v0=0");
        return x;
    }

    static int sizeOf(int graph) {
        return new int[] {8, 6, 1, 0}[graph];
    }

    static void write(HomBench x, String text) {
        x.clearText();
        for (char sign : text.toCharArray()) {
            x.append(sign);
        }
    }
}
