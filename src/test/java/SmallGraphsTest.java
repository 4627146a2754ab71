import java.util.ArrayList;
import java.util.List;

/** All graphs with at most three vertices, and all pairs of them, beside the lists of NaiveBench. */
final class SmallGraphsTest {
    private static final int MOST = 3;

    private final HomBench bench = new HomBench();
    private final NaiveBench naive = new NaiveBench();
    private final String pair;

    private SmallGraphsTest(String x, String y) {
        pair = x + " and " + y + ": ";
        String[] texts = {x, y};
        for (int g = 0; g < 2; g++) {
            Check.read(bench, g, texts[g]);
            naive.clearText();
            for (char sign : texts[g].toCharArray()) {
                naive.append(sign);
            }
            naive.parse(g);
        }
    }

    public static void main(String[] args) {
        List<String> all = all();
        Check.due("how many there are", 1 + 2 + 8 + 64, all.size());
        for (String x : all) {
            new SmallGraphsTest(x, "0").alone();
            for (String y : all) {
                SmallGraphsTest both = new SmallGraphsTest(x, y);
                both.counts();
                both.searches(x.charAt(0) - '0');
            }
        }
        Check.finish("SmallGraphsTest");
    }

    /** Each graph once, with weights that differ from vertex to vertex and from edge to edge. */
    private static List<String> all() {
        List<String> texts = new ArrayList<>();
        for (int size = 0; size <= MOST; size++) {
            for (int set = 0; set < 1 << size * (size + 1) / 2; set++) {
                texts.add(text(size, set));
            }
        }
        return texts;
    }

    private static String text(int size, int set) {
        StringBuilder text = new StringBuilder().append(size);
        for (int v = 0; v < size; v++) {
            text.append(";v").append(v).append('=').append(set % 3 == 0 ? 1 : v + set % 5 - 3);
        }
        int place = 0;
        for (int u = 0; u < size; u++) {
            for (int v = u; v < size; v++) {
                if ((set >> place & 1) != 0) {
                    int weight = place % 2 == 0 ? 1 : place % 3 == 0 ? -2 : 2;
                    text.append(';').append(u).append(v).append('=').append(weight);
                }
                place++;
            }
        }
        return text.toString();
    }

    private void same(String call, Check.Call asked, Check.Call due) {
        Check.due(pair + call, Check.outcome(due), Check.outcome(asked));
    }

    private void counts() {
        for (int each = 0; each <= 6; each++) {
            int kind = each;
            same("count of kind " + kind, () -> bench.count(0, 1, kind), () -> naive.count(0, 1, kind));
        }
        same("density", () -> bench.density(0, 1, 0), () -> naive.density(0, 1, 0));
        same("density", () -> bench.density(0, 1, 1), () -> naive.density(0, 1, 1));
    }

    private void searches(int size) {
        same("compare", () -> bench.compare(0, 1), () -> naive.compare(0, 1));
        same("isomorphic", () -> bench.isomorphic(0, 1), () -> naive.isomorphic(0, 1));
        for (int each = 0; each <= size; each++) {
            int v = each;
            same("image of " + v, () -> bench.image(0, 1, v), () -> naive.image(0, 1, v));
        }
    }

    private void alone() {
        same("automorphisms", () -> bench.automorphisms(0), () -> naive.automorphisms(0));
        same("chromatic", () -> bench.chromatic(0), () -> naive.chromatic(0));
        same("colorings", () -> bench.colorings(0, 4), () -> naive.colorings(0, 4));
        same("treewidth", () -> bench.treewidth(0), () -> naive.treewidth(0));
        same("coreSize", () -> bench.coreSize(0), () -> naive.coreSize(0));
        same("isCore", () -> bench.isCore(0), () -> naive.isCore(0));
        for (int each = 0; each <= MOST; each++) {
            int n = each;
            same("components", () -> bench.graph(0, n), () -> naive.graph(0, n));
            same("folds", () -> bench.folds(0, n), () -> naive.folds(0, n));
            same("greedy", () -> bench.greedy(0, n), () -> naive.greedy(0, n));
            same("bag", () -> bench.bag(0, n), () -> naive.bag(0, n));
            same("independent", () -> bench.independent(0, n), () -> naive.independent(0, n));
            same("walks", () -> bench.walks(0, n, false), () -> naive.walks(0, n, false));
            same("closed walks", () -> bench.walks(0, n, true), () -> naive.walks(0, n, true));
        }
        orders();
        for (int kind = 0; kind <= 3; kind++) {
            int each = kind;
            same("derive", () -> bench.derive(2, 0, each, 0), () -> naive.derive(2, 0, each, 0));
            same("what is derived", () -> Check.text(bench, 2), () -> naive.text(2));
        }
        same("dismantle", () -> bench.dismantle(0), () -> naive.dismantle(0));
        same("what remains", () -> Check.text(bench, 0), () -> naive.text(0));
    }

    /** Of all numbers with digits up to 4, the orders and those that are none. */
    private void orders() {
        int[] orders = {0, 1, 2, 10, 11, 12, 21, 22, 13, 31, 120, 210, 111, 112, 121, 211, 122, 212, 221, 123, 132, 213,
            231, 312, 321, 124, 214, 412, 113, 131, 311, 133, 313, 331, 222, 223, 232, 322, 233, 323, 332, 333, 1234};
        for (int order : orders) {
            same("width of " + order, () -> bench.width(0, order, false), () -> naive.width(0, order, false));
            same("fill of " + order, () -> bench.width(0, order, true), () -> naive.width(0, order, true));
        }
    }
}
