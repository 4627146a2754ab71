/** Promises 34 and 35: undo and digest. */
final class StateTest {
    public static void main(String[] args) {
        undo();
        fourStates();
        undoRestoresAllGraphs();
        whatIsUndoable();
        digestOfNothing();
        digestOfGraphs();
        digestTellsChanges();
        wholeLife();
        Check.finish("StateTest");
    }

    private static void undo() {
        HomBench x = new HomBench();
        Check.noState("nothing is saved", () -> x.undo());
        x.setSize(0, 3);
        Check.due("undo", 0, x.undo());
        Check.due("restored", 0, x.graph(0, 0));
        Check.noState("nothing is saved any more", () -> x.undo());
    }

    private static void fourStates() {
        HomBench x = new HomBench();
        for (int size = 1; size <= 7; size++) {
            x.setSize(0, size);
        }
        for (int left = 3; left >= 0; left--) {
            Check.due("undo", left, x.undo());
            Check.due("restored", 3 + left, x.graph(0, 0));
        }
        Check.noState("older states are dropped", () -> x.undo());
        x.setSize(0, 5);
        x.setSize(0, 6);
        Check.due("undo", 1, x.undo());
        x.setSize(0, 7);
        Check.due("undo", 1, x.undo());
        Check.due("restored", 5, x.graph(0, 0));
        Check.due("undo", 0, x.undo());
        Check.due("restored", 3, x.graph(0, 0));
    }

    private static void undoRestoresAllGraphs() {
        HomBench x = new HomBench();
        String[] texts = {"3;v0=2;01", "2;01=-2;11", "8;v7=0", "5;04=2"};
        for (int g = 0; g < 4; g++) {
            Check.read(x, g, texts[g]);
        }
        x.combine(0, 1, 3, 0);
        x.make(1, 2, 3);
        x.dismantle(2);
        x.undo();
        x.undo();
        x.undo();
        for (int g = 0; g < 4; g++) {
            Check.due("restored", texts[g], Check.text(x, g));
        }
        Check.due("neighbors too", 1, x.vertex(3, 4, 2));
    }

    private static void whatIsUndoable() {
        HomBench x = new HomBench();
        x.make(0, 1, 4);
        x.append('2');
        x.digest();
        x.greedy(0, 0);
        x.width(0, 0, true);
        x.treewidth(0);
        x.bag(0, 0);
        x.count(0, 0, 5);
        x.density(0, 0, 0);
        x.automorphisms(0);
        x.isomorphic(0, 1);
        x.image(0, 0, 0);
        x.compare(0, 1);
        x.colorings(0, 3);
        x.chromatic(0);
        x.independent(0, -1);
        x.walks(0, 3, true);
        x.folds(0, 0);
        x.isCore(0);
        x.coreSize(0);
        x.clearText();
        x.parse(0);
        Check.due("none of these", 0, x.undo());
    }

    private static long hash(long... values) {
        long hash = 2879;
        for (long value : values) {
            hash = 31 * hash + value;
        }
        return hash;
    }

    private static void digestOfNothing() {
        HomBench x = new HomBench();
        long due = hash(0, 0, -1, 1, 0, 0, -1, 1, 0, 0, -1, 1, 0, 0, -1, 1, 0,
                3, 3, 3, 3, 3, 3, 3, 3, 3, 3, 3, 3, 3, 3, 3, 3, 0);
        Check.due("digest", due, x.digest());
        Check.due("digest again", due, x.digest());
    }

    private static void digestOfGraphs() {
        HomBench x = new HomBench();
        Check.read(x, 0, "2;v1=-3;00=-1;01=2");
        x.make(2, 2, 3);
        x.make(3, 0, 3);
        long due = hash(18,
                2, 1, -3, -1, 2, 0, 1, 1, 1,
                0, -1, 1, 0,
                3, 1, 1, 1, 0, 1, 1, 0, 1, 0, 2, 6, 3,
                3, 1, 1, 1, 0, 1, 0, 0, 1, 0, 1, 2, 2,
                3, 2, 2, 2, 1, 3, 1, 1, 1, 2, 3, 2, 1, 2, 1, 3,
                3);
        Check.due("digest", due, x.digest());
    }

    private static void digestTellsChanges() {
        HomBench x = new HomBench();
        x.make(0, 0, 3);
        long before = x.digest();
        x.append(48);
        Check.due("the text's length", false, before == x.digest());
        x.clearText();
        Check.due("as before", before, x.digest());
        x.derive(0, 0, 0, 0);
        Check.due("the saved states", false, before == x.digest());
        x.undo();
        Check.due("as before", before, x.digest());
    }

    private static void wholeLife() {
        HomBench x = new HomBench();
        for (int call = 1; call < 256; call++) {
            x.random(call % 4, 8, call, 50);
            x.digest();
        }
        Check.due("as another object", fresh().digest(), x.digest());
    }

    private static HomBench fresh() {
        HomBench x = new HomBench();
        for (int call = 252; call < 256; call++) {
            x.random(call % 4, 8, call, 50);
        }
        return x;
    }
}
