import java.util.Random;

/** Runs of calls with drawn arguments, some of them wrong, on the class and on NaiveBench side by side. */
final class RandomRunsTest {
    // What later calls on an object answer is free.
    private static final int LIFE = 512;
    // clearText, the bytes of a drawn text, parse, and the digest at the end.
    private static final int LONGEST_STEP = 60;

    private final Random draw;
    private final HomBench bench = new HomBench();
    private final NaiveBench naive = new NaiveBench();
    private final String run;
    // The naive lists of maps take long on the greatest graphs, so most runs keep to smaller ones.
    private final int usualSize;
    private int made = 0;

    private RandomRunsTest(int seed) {
        draw = new Random(seed);
        run = "run " + seed + " ";
        usualSize = seed % 8 == 0 ? 8 : 3 + seed % 4;
    }

    public static void main(String[] args) {
        int runs = args.length > 0 ? Integer.parseInt(args[0]) : 200;
        for (int seed = 1; seed <= runs; seed++) {
            new RandomRunsTest(seed).calls();
        }
        Check.finish("RandomRunsTest");
    }

    private void calls() {
        for (int call = 0; call < 200 && made < LIFE - LONGEST_STEP; call++) {
            oneCall();
        }
        same("digest()", () -> bench.digest(), () -> naive.digest());
    }

    private void same(String call, Check.Call asked, Check.Call due) {
        made++;
        Check.due(run + call, Check.outcome(due), Check.outcome(asked));
    }

    /** Mostly a number from low to high, now and then one near or far outside. */
    private int number(int low, int high) {
        int kind = draw.nextInt(40);
        if (kind == 0) {
            return high + 1 + draw.nextInt(2);
        }
        if (kind == 1) {
            return low - 1 - draw.nextInt(2);
        }
        if (kind == 2 && draw.nextInt(4) == 0) {
            return draw.nextInt();
        }
        return high < low ? low : low + draw.nextInt(high - low + 1);
    }

    private int graphNumber() {
        return draw.nextInt(60) == 0 ? draw.nextInt(7) - 2 : draw.nextInt(4);
    }

    private int vertexOf(int graph) {
        int size = graph < 0 || graph > 3 ? 0 : naive.graph(graph, 0);
        return number(0, size - 1);
    }

    private int size() {
        return draw.nextInt(12) == 0 ? number(0, 8) : draw.nextInt(usualSize + 1);
    }

    private void oneCall() {
        switch (draw.nextInt(6)) {
            case 0, 1:
                change();
                break;
            case 2:
                look();
                break;
            case 3:
                countMaps();
                break;
            case 4:
                search();
                break;
            default:
                textCall();
        }
    }

    private void change() {
        int g = graphNumber();
        int x = graphNumber();
        int y = graphNumber();
        int u = vertexOf(g);
        int v = draw.nextInt(4) == 0 ? u : vertexOf(g);
        int size = size();
        switch (draw.nextInt(12)) {
            case 0 -> same("setSize", () -> bench.setSize(g, size), () -> naive.setSize(g, size));
            case 1, 2 -> {
                int weight = number(-3, 3);
                same("setVertex", () -> bench.setVertex(g, u, weight), () -> naive.setVertex(g, u, weight));
            }
            case 3, 4, 5 -> {
                int weight = number(-2, 2);
                same("setEdge", () -> bench.setEdge(g, u, v, weight), () -> naive.setEdge(g, u, v, weight));
            }
            case 6 -> {
                int family = number(0, 4);
                same("make", () -> bench.make(g, family, size), () -> naive.make(g, family, size));
            }
            case 7 -> {
                int seed = number(0, 999999);
                int percent = number(0, 100);
                same("random", () -> bench.random(g, size, seed, percent), () -> naive.random(g, size, seed, percent));
            }
            case 8 -> {
                int kind = number(0, 2);
                same("combine", () -> bench.combine(g, x, y, kind), () -> naive.combine(g, x, y, kind));
            }
            case 9 -> {
                int kind = number(0, 3);
                int set = kind == 2 || draw.nextInt(8) == 0 ? number(0, (1 << usualSize) - 1) : 0;
                same("derive", () -> bench.derive(g, x, kind, set), () -> naive.derive(g, x, kind, set));
            }
            case 10 -> same("dismantle", () -> bench.dismantle(g), () -> naive.dismantle(g));
            default -> same("undo", () -> bench.undo(), () -> naive.undo());
        }
    }

    private void look() {
        int g = graphNumber();
        int u = vertexOf(g);
        int v = vertexOf(g);
        boolean flag = draw.nextBoolean();
        switch (draw.nextInt(9)) {
            case 0 -> {
                int what = number(0, 3);
                same("graph", () -> bench.graph(g, what), () -> naive.graph(g, what));
            }
            case 1 -> {
                int what = number(0, 2);
                same("vertex", () -> bench.vertex(g, u, what), () -> naive.vertex(g, u, what));
            }
            case 2 -> same("edge", () -> bench.edge(g, u, v), () -> naive.edge(g, u, v));
            case 3 -> same("greedy", () -> bench.greedy(g, u), () -> naive.greedy(g, u));
            case 4 -> {
                int order = order(g);
                same("width " + order, () -> bench.width(g, order, flag), () -> naive.width(g, order, flag));
            }
            case 5 -> same("treewidth", () -> bench.treewidth(g), () -> naive.treewidth(g));
            case 6 -> same("bag", () -> bench.bag(g, u), () -> naive.bag(g, u));
            case 7 -> {
                int index = number(0, 40);
                same("written", () -> bench.written(g, index), () -> naive.written(g, index));
            }
            default -> same("digest", () -> bench.digest(), () -> naive.digest());
        }
    }

    private int order(int graph) {
        if (draw.nextInt(6) == 0 || graph < 0 || graph > 3) {
            return number(0, 12345678);
        }
        int size = naive.graph(graph, 0);
        int order = 0;
        int used = 0;
        for (int place = 0; place < size; place++) {
            int vertex = draw.nextInt(size);
            while ((used & 1 << vertex) != 0) {
                vertex = (vertex + 1) % size;
            }
            used |= 1 << vertex;
            order = 10 * order + vertex + 1;
        }
        return order;
    }

    private void countMaps() {
        int x = graphNumber();
        int y = graphNumber();
        int length = number(0, 12);
        boolean flag = draw.nextBoolean();
        switch (draw.nextInt(9)) {
            case 0, 1, 2, 3 -> {
                int kind = number(0, 6);
                same("count kind " + kind, () -> bench.count(x, y, kind), () -> naive.count(x, y, kind));
            }
            case 4 -> {
                int part = number(0, 1);
                same("density", () -> bench.density(x, y, part), () -> naive.density(x, y, part));
            }
            case 5 -> {
                int colors = number(0, 20);
                same("colorings", () -> bench.colorings(x, colors), () -> naive.colorings(x, colors));
            }
            case 6 -> same("chromatic", () -> bench.chromatic(x), () -> naive.chromatic(x));
            case 7 -> {
                int size = number(-1, 8);
                same("independent", () -> bench.independent(x, size), () -> naive.independent(x, size));
            }
            default -> same("walks", () -> bench.walks(x, length, flag), () -> naive.walks(x, length, flag));
        }
    }

    private void search() {
        int x = graphNumber();
        int y = graphNumber();
        int u = vertexOf(x);
        switch (draw.nextInt(7)) {
            case 0 -> same("automorphisms", () -> bench.automorphisms(x), () -> naive.automorphisms(x));
            case 1 -> same("isomorphic", () -> bench.isomorphic(x, y), () -> naive.isomorphic(x, y));
            case 2 -> same("image", () -> bench.image(x, y, u), () -> naive.image(x, y, u));
            case 3 -> same("compare", () -> bench.compare(x, y), () -> naive.compare(x, y));
            case 4 -> same("folds", () -> bench.folds(x, u), () -> naive.folds(x, u));
            case 5 -> same("isCore", () -> bench.isCore(x), () -> naive.isCore(x));
            default -> same("coreSize", () -> bench.coreSize(x), () -> naive.coreSize(x));
        }
    }

    private void textCall() {
        int g = graphNumber();
        switch (draw.nextInt(8)) {
            case 0 -> {
                int value = number(0, 127);
                same("append", () -> bench.append(value), () -> naive.append(value));
            }
            case 1, 2 -> appendDrawn();
            case 3 -> same("clearText", () -> bench.clearText(), () -> naive.clearText());
            default -> {
                same("clearText", () -> bench.clearText(), () -> naive.clearText());
                appendText(drawnText());
                same("parse", () -> bench.parse(g), () -> naive.parse(g));
            }
        }
    }

    private void appendDrawn() {
        int value = "0123456789;;;v==-- x".charAt(draw.nextInt(20));
        same("append", () -> bench.append(value), () -> naive.append(value));
    }

    private void appendText(String text) {
        for (char sign : text.toCharArray()) {
            same("append", () -> bench.append(sign), () -> naive.append(sign));
        }
    }

    /** A text that is right but for, at times, one sign that is put, dropped or cut off. */
    private String drawnText() {
        int size = draw.nextInt(usualSize + 1);
        StringBuilder text = new StringBuilder().append(size);
        for (int item = draw.nextInt(7); item > 0 && size > 0; item--) {
            boolean vertexItem = draw.nextInt(3) == 0;
            text.append(vertexItem ? ";v" : ";" + draw.nextInt(size)).append(draw.nextInt(size));
            if (vertexItem || draw.nextBoolean()) {
                text.append('=').append(draw.nextBoolean() ? "-" : "").append(draw.nextInt(vertexItem ? 4 : 3));
            }
        }
        int place = draw.nextInt(text.length());
        switch (draw.nextInt(6)) {
            case 0 -> text.setCharAt(place, "0123456789;v=- x".charAt(draw.nextInt(16)));
            case 1 -> text.insert(place, "0123456789;v=- x".charAt(draw.nextInt(16)));
            case 2 -> text.deleteCharAt(place);
            case 3 -> text.setLength(place);
            default -> { }
        }
        return text.toString();
    }
}
