/** No saved state, up to the four that are kept, and more: what each method saves and what undo restores. */
final class SavedStatesTest {
    // Each undoable method, once with a change and once without one, on the graphs of begun().
    private static final Check.BenchCall[] CHANGES = {
        x -> x.setSize(0, 8), x -> x.setVertex(0, 1, -3), x -> x.setEdge(0, 0, 1, -2), x -> x.make(0, 2, 5),
        x -> x.random(0, 6, 999999, 100), x -> x.combine(0, 0, 0, 0), x -> x.derive(0, 0, 2, 1),
        x -> x.dismantle(0), x -> x.parse(0)};
    private static final Check.BenchCall[] REPEATS = {
        x -> x.setSize(3, 0), x -> x.setVertex(0, 1, 2), x -> x.setEdge(0, 0, 1, 2), x -> x.make(3, 4, 0),
        x -> x.random(3, 0, 0, 0), x -> x.combine(0, 0, 3, 0), x -> x.derive(0, 0, 0, 0),
        x -> x.dismantle(1), x -> x.parse(2)};
    private static final String FIRST = "3;v1=2;01=2;12";

    public static void main(String[] args) {
        noState();
        eachMethodSaves();
        withoutAChange();
        exactlyOneState();
        oneToFour();
        oneMore();
        manyMore();
        eachMethodDropsTheOldest();
        upAndDown();
        allGraphs();
        neitherTextNorItself();
        nothingElseSaves();
        refusedCallsSaveNothing();
        syntaxErrorsSaveNothing();
        ownCopies();
        wholeLife();
        Check.finish("SavedStatesTest");
    }

    private static void noState() {
        HomBench x = new HomBench();
        Check.noState("a new object", () -> x.undo());
        x.append('0');
        Check.noState("a text is no state", () -> x.undo());
        x.setSize(0, 1);
        Check.due("one state", 0, x.undo());
        Check.noState("it was the only one", () -> x.undo());
        Check.noState("and still is", () -> x.undo());
        Check.due("the graphs are as at first", 0, x.graph(0, 0));
        x.setSize(0, 2);
        Check.due("it goes on", 0, x.undo());
    }

    /** Three graphs and three saved states, so that there is room for one more. */
    private static HomBench begun() {
        HomBench x = new HomBench();
        Check.read(x, 0, FIRST);
        x.make(1, 2, 3);
        Check.read(x, 2, "4;33=2");
        return x;
    }

    private static String graphs(HomBench x) {
        return Check.text(x, 0) + " " + Check.text(x, 1) + " " + Check.text(x, 2) + " " + Check.text(x, 3);
    }

    private static void eachMethodSaves() {
        for (int method = 0; method < CHANGES.length; method++) {
            HomBench x = begun();
            String before = graphs(x);
            CHANGES[method].answer(x);
            Check.due("method " + method + " changes something", false, before.equals(graphs(x)));
            Check.due("method " + method + " saved one state", 3, x.undo());
            Check.due("method " + method + " is undone", before, graphs(x));
        }
    }

    private static void withoutAChange() {
        for (int method = 0; method < REPEATS.length; method++) {
            HomBench x = begun();
            String before = graphs(x);
            REPEATS[method].answer(x);
            Check.due("method " + method + " changes nothing", before, graphs(x));
            Check.due("method " + method + " saved one state even so", 3, x.undo());
            Check.due("method " + method + " is undone", before, graphs(x));
        }
    }

    private static void savesOne(String what, Check.NumberCall call, int... numbers) {
        for (int number : numbers) {
            HomBench x = new HomBench();
            Check.read(x, 0, "2;v0=2;00=-1;01");
            String before = graphs(x);
            call.answer(x, number);
            Check.due(what + " " + number + " saves one state", 1, x.undo());
            Check.due(what + " " + number + " is undone", before, graphs(x));
            Check.due("the only other state", 0, x.undo());
        }
    }

    /** Whatever the arguments are. */
    private static void exactlyOneState() {
        savesOne("setSize", (x, size) -> x.setSize(0, size), 0, 1, 2, 3, 4, 5, 6, 7, 8);
        savesOne("setVertex", (x, weight) -> x.setVertex(0, 0, weight), -3, -2, -1, 0, 1, 2, 3);
        savesOne("setEdge", (x, weight) -> x.setEdge(0, 1, 0, weight), -2, -1, 0, 1, 2);
        savesOne("a loop", (x, weight) -> x.setEdge(0, 0, 0, weight), -2, -1, 0, 1, 2);
        savesOne("make", (x, family) -> x.make(0, family, 8), 0, 1, 2, 3, 4);
        savesOne("make without vertices", (x, family) -> x.make(0, family, 0), 0, 1, 2, 3, 4);
        savesOne("random", (x, seed) -> x.random(0, 5, seed, 50), 0, 1, 999999);
        savesOne("random percent", (x, percent) -> x.random(0, 8, 1, percent), 0, 100);
        savesOne("combine", (x, kind) -> x.combine(0, 0, 0, kind), 0, 1, 2);
        savesOne("combine with nothing", (x, kind) -> x.combine(0, 0, 3, kind), 0, 1, 2);
        savesOne("derive", (x, kind) -> x.derive(0, 0, kind, 0), 0, 1, 2, 3);
        savesOne("induced", (x, set) -> x.derive(0, 0, 2, set), 0, 1, 2, 3);
        savesOne("dismantle", (x, graph) -> x.dismantle(graph), 0, 1, 2, 3);
        savesOne("parse", (x, graph) -> x.parse(graph), 0, 1, 2, 3);
    }

    /** A bench on which setSize was called so often, with the sizes 1, 2 and so on. */
    private static HomBench sized(int calls) {
        HomBench x = new HomBench();
        for (int size = 1; size <= calls; size++) {
            x.setSize(0, size % 9);
        }
        return x;
    }

    private static void undone(HomBench x, int... sizes) {
        for (int i = 0; i < sizes.length; i++) {
            Check.due("states that remain", sizes.length - 1 - i, x.undo());
            Check.due("the size that is restored", sizes[i], x.graph(0, 0));
        }
        Check.noState("no more states", () -> x.undo());
    }

    private static void oneToFour() {
        undone(sized(0));
        undone(sized(1), 0);
        undone(sized(2), 1, 0);
        undone(sized(3), 2, 1, 0);
        undone(sized(4), 3, 2, 1, 0);
    }

    /** The oldest state is dropped first. */
    private static void oneMore() {
        undone(sized(5), 4, 3, 2, 1);
        undone(sized(6), 5, 4, 3, 2);
        undone(sized(7), 6, 5, 4, 3);
        undone(sized(8), 7, 6, 5, 4);
        undone(sized(9), 8, 7, 6, 5);
    }

    private static void manyMore() {
        for (int calls = 10; calls <= 40; calls++) {
            undone(sized(calls), (calls - 1) % 9, (calls - 2) % 9, (calls - 3) % 9, (calls - 4) % 9);
        }
    }

    private static void eachMethodDropsTheOldest() {
        for (int method = 0; method < CHANGES.length; method++) {
            HomBench x = begun();
            x.make(3, 0, 7);
            String before = graphs(x);
            CHANGES[method].answer(x);
            Check.due("method " + method + " leaves four states", 3, x.undo());
            Check.due("method " + method + " is undone", before, graphs(x));
            Check.due("make is undone", 2, x.undo());
            Check.due("parse is undone", 1, x.undo());
            Check.due("make is undone", 0, x.undo());
            Check.due("the first parse is not", FIRST + " 0 0 0", graphs(x));
            Check.noState("its state was dropped", () -> x.undo());
        }
    }

    private static void upAndDown() {
        for (int shift = 0; shift <= 6; shift++) {
            HomBench x = sized(shift);
            x.make(0, 0, 2);
            x.make(0, 0, 3);
            int left = Math.min(shift, 2);
            Check.due("undo", left + 1, x.undo());
            x.make(0, 0, 4);
            x.make(0, 0, 5);
            x.make(0, 0, 6);
            Check.due("undo", 3, x.undo());
            Check.due("restored", 5, x.graph(0, 0));
            Check.due("undo", 2, x.undo());
            Check.due("restored", 4, x.graph(0, 0));
            Check.due("undo", 1, x.undo());
            Check.due("restored", 2, x.graph(0, 0));
            x.make(0, 0, 8);
            Check.due("undo", 1, x.undo());
            Check.due("restored", 2, x.graph(0, 0));
            Check.due("undo", 0, x.undo());
            Check.due("restored", shift, x.graph(0, 0));
            Check.noState("no more states", () -> x.undo());
        }
    }

    /** The saved state contains the four graphs, with all their weights. */
    private static void allGraphs() {
        HomBench x = new HomBench();
        String[] texts = {"8;v7=-3;77=2;07=-2", "1;v0=0;00=-1", "2;01=2", "0"};
        for (int g = 0; g < 4; g++) {
            Check.read(x, g, texts[g]);
        }
        String before = graphs(x);
        for (int g = 0; g < 4; g++) {
            x.make(g, 4, 8 - g);
        }
        Check.due("undo", 3, x.undo());
        Check.due("undo", 2, x.undo());
        Check.due("undo", 1, x.undo());
        Check.due("undo", 0, x.undo());
        Check.due("all graphs are restored", before, graphs(x));
        Check.due("neighbors too", 0b10000001, x.vertex(0, 7, 2));
    }

    private static void neitherTextNorItself() {
        HomBench x = new HomBench();
        Check.read(x, 0, "2;01");
        x.append(';');
        Check.due("undo", 0, x.undo());
        Check.due("undo leaves the text", 6, x.append('1'));
        Check.noState("undo saves nothing", () -> x.undo());
        x.setSize(0, 1);
        x.clearText();
        Check.due("undo", 0, x.undo());
        Check.due("undo does not bring the text back", 0, x.clearText());
    }

    private static void nothingElseSaves() {
        Check.BenchCall[] calls = {x -> x.graph(0, 0), x -> x.vertex(0, 0, 0), x -> x.edge(0, 0, 0),
            x -> x.greedy(0, 0), x -> x.width(0, 0, true), x -> x.width(0, 123, false), x -> x.treewidth(0),
            x -> x.bag(0, 0), x -> x.count(0, 0, 0), x -> x.count(0, 0, 5), x -> x.count(0, 0, 6),
            x -> x.density(0, 0, 0), x -> x.automorphisms(0), x -> x.isomorphic(0, 1), x -> x.image(0, 0, 0),
            x -> x.compare(0, 1), x -> x.colorings(0, 3), x -> x.chromatic(0), x -> x.independent(0, -1),
            x -> x.walks(0, 3, true), x -> x.folds(0, 0), x -> x.isCore(0), x -> x.coreSize(0), x -> x.append('0'),
            x -> x.clearText(), x -> x.written(0, 0), x -> x.digest()};
        HomBench x = new HomBench();
        x.make(0, 0, 3);
        String before = graphs(x);
        for (int call = 0; call < calls.length; call++) {
            calls[call].answer(x);
            Check.due("call " + call + " saves nothing", 0, x.undo());
            x.make(0, 0, 3);
            Check.due("call " + call + " changes no graph", before, graphs(x));
        }
    }

    private static void refusedCallsSaveNothing() {
        Check.BenchCall[] refused = {x -> x.setSize(0, 9), x -> x.setVertex(0, 0, 4), x -> x.setEdge(0, 0, 0, 3),
            x -> x.make(0, 0, 9), x -> x.random(0, 8, 0, 101), x -> x.combine(0, 0, 2, 1), x -> x.derive(0, 0, 2, 8),
            x -> x.dismantle(4), x -> x.parse(4)};
        for (Check.BenchCall call : refused) {
            HomBench x = begun();
            String before = graphs(x);
            Check.due("it is refused", true, Check.outcome(() -> call.answer(x)) instanceof String);
            Check.due("the graphs stay", before, graphs(x));
            Check.due("nothing was saved", 2, x.undo());
            HomBench full = begun();
            full.make(3, 0, 7);
            Check.outcome(() -> call.answer(full));
            for (int left = 3; left >= 0; left--) {
                Check.due("undo", left, full.undo());
            }
            Check.due("nothing was dropped", "0 0 0 0", graphs(full));
        }
    }

    private static void syntaxErrorsSaveNothing() {
        HomBench x = begun();
        String before = graphs(x);
        x.append('x');
        Check.due("a syntax error", -16, x.parse(0));
        x.clearText();
        Check.due("no text", -10, x.parse(0));
        Check.due("the graphs stay", before, graphs(x));
        Check.due("nothing was saved", 2, x.undo());
    }

    /** A state that is saved or restored does not change with the graphs. */
    private static void ownCopies() {
        HomBench x = new HomBench();
        x.make(0, 0, 3);
        x.derive(1, 0, 0, 0);
        x.setEdge(1, 0, 1, -2);
        x.setVertex(1, 2, 3);
        Check.due("a copy is another graph", "3;01;12", Check.text(x, 0));
        x.undo();
        x.setVertex(0, 0, -3);
        x.setEdge(0, 2, 2, 2);
        x.undo();
        x.undo();
        Check.due("undo", "3;01=-2;12", Check.text(x, 1));
        Check.due("undo", "3;01;12", Check.text(x, 0));
        x.undo();
        x.undo();
        Check.due("undo", "3;01;12 0 0 0", graphs(x));
    }

    /** 512 calls: the last of them answers as on an object with fewer. */
    private static void wholeLife() {
        HomBench x = new HomBench();
        for (int call = 0; call < 507; call++) {
            x.random(call % 4, 8, call, 50);
        }
        HomBench fresh = new HomBench();
        for (int call = 499; call < 507; call++) {
            fresh.random(call % 4, 8, call, 50);
        }
        for (int left = 3; left >= 0; left--) {
            Check.due("undo", left, x.undo());
            fresh.undo();
        }
        Check.due("the 512th call", fresh.digest(), x.digest());
    }
}
