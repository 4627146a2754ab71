/** Promises 30 to 33: the text, how it is read as a graph, and how a graph is written. */
final class TextTest {
    public static void main(String[] args) {
        append();
        fullText();
        clearText();
        parse();
        errors();
        errorsChangeNothing();
        emptyGraphs();
        written();
        longestWritten();
        Check.finish("TextTest");
    }

    private static void append() {
        HomBench x = new HomBench();
        Check.due("append", 1, x.append(0));
        Check.due("append", 2, x.append(127));
        Check.noArgument("value", () -> x.append(128));
        Check.noArgument("value", () -> x.append(-1));
        Check.due("append", 3, x.append(48));
        Check.noState("not undoable", () -> x.undo());
        x.make(0, 0, 2);
        x.undo();
        Check.due("undo leaves the text", 4, x.append(48));
    }

    private static void fullText() {
        HomBench x = new HomBench();
        x.append('8');
        for (int i = 1; i < 120; i++) {
            x.append(i % 3 == 1 ? ';' : '1');
        }
        long before = x.digest();
        Check.noState("the text is full", () -> x.append(49));
        Check.noArgument("value comes first", () -> x.append(128));
        Check.due("nothing changed", before, x.digest());
        Check.due("too early", -130, x.parse(0));
        Check.due("length", 120, x.clearText());
        Check.due("append", 1, x.append(49));
    }

    private static void clearText() {
        HomBench x = new HomBench();
        Check.due("empty", 0, x.clearText());
        Check.read(x, 0, "2;01");
        Check.due("clearText", 4, x.clearText());
        Check.due("clearText", 0, x.clearText());
        Check.due("the graph stays", "2;01", Check.text(x, 0));
        Check.due("not undoable", 0, x.undo());
    }

    private static void parse() {
        HomBench x = new HomBench();
        x.make(0, 4, 8);
        Check.due("no items", 0, Check.read(x, 0, "3"));
        Check.due("no items", "3", Check.text(x, 0));
        Check.due("items", 5, Check.read(x, 0, "8;v7=-3;07=2;77=-2;10;v0=0"));
        Check.due("items", "8;v0=0;v7=-3;01;07=2;77=-2", Check.text(x, 0));
        Check.due("later items win", 6, Check.read(x, 0, "2;v0=2;v0=-0;01=2;10;00=2;00=0"));
        Check.due("later items win", "2;v0=0;01", Check.text(x, 0));
        Check.due("the text stays", 6, x.parse(3));
        Check.due("the text stays", "2;v0=0;01", Check.text(x, 3));
        Check.due("minus zero", 1, Check.read(x, 0, "2;01=-0"));
        Check.due("minus zero", "2", Check.text(x, 0));
        x.undo();
        Check.due("undoable", "2;v0=0;01", Check.text(x, 0));
        Check.noIndex("graph", () -> x.parse(4));
        Check.noIndex("graph", () -> x.parse(-1));
    }

    private static void error(HomBench x, String text, int place) {
        Check.due("parse of " + text, -10 - place, Check.read(x, 0, text));
    }

    private static void errors() {
        HomBench x = new HomBench();
        error(x, "", 0);
        error(x, "9", 0);
        error(x, "x", 0);
        error(x, ";", 0);
        error(x, "22", 1);
        error(x, "2 ", 1);
        error(x, "2;", 2);
        error(x, "2;;", 2);
        error(x, "2;2", 2);
        error(x, "2;0", 3);
        error(x, "2;02", 3);
        error(x, "2;0v", 3);
        error(x, "2;01;", 5);
        error(x, "2;01x", 4);
        error(x, "2;01-", 4);
        error(x, "2;01=", 5);
        error(x, "2;01=3", 5);
        error(x, "2;01=-", 6);
        error(x, "2;01=-3", 6);
        error(x, "2;01=--1", 6);
        error(x, "2;01=+1", 5);
        error(x, "2;01=11", 6);
        error(x, "2;v", 3);
        error(x, "2;v2", 3);
        error(x, "2;vv", 3);
        error(x, "2;v1", 4);
        error(x, "2;v1;", 4);
        error(x, "2;v11", 4);
        error(x, "2;v1=", 5);
        error(x, "2;v1=4", 5);
        error(x, "2;v1=-", 6);
        error(x, "2;v1=-4", 6);
        error(x, "2;v1=-3;v1=33", 12);
        error(x, "2;01=", 5);
        error(x, "8;78", 3);
        error(x, "8;87", 2);
        error(x, "8;v8=1", 3);
    }

    private static void errorsChangeNothing() {
        HomBench x = new HomBench();
        Check.read(x, 0, "3;v1=2;02=-1");
        Check.due("an error at the end", -18, Check.read(x, 0, "2;11;01=5"));
        Check.due("the graph stays", "3;v1=2;02=-1", Check.text(x, 0));
        Check.due("nothing is saved", 0, x.undo());
    }

    private static void emptyGraphs() {
        HomBench x = new HomBench();
        Check.due("no vertices", 0, Check.read(x, 0, "0"));
        error(x, "0;", 2);
        error(x, "0;0", 2);
        error(x, "0;v", 3);
        error(x, "0;v0", 3);
        error(x, "0;/", 2);
        error(x, "0;v/", 3);
    }

    private static void written() {
        HomBench x = new HomBench();
        Check.due("nothing", 48, x.written(0, 0));
        Check.due("nothing", HomBench.NONE, x.written(0, 1));
        Check.due("far behind", HomBench.NONE, x.written(0, Integer.MAX_VALUE));
        String text = "4;v0=-3;v2=0;v3=2;00=-1;01;02=2;13=-2;22;33=2";
        Check.read(x, 0, text);
        Check.due("the text again", text, Check.text(x, 0));
        Check.due("the byte behind", HomBench.NONE, x.written(0, text.length()));
        Check.noIndex("graph", () -> x.written(4, -1));
        Check.noArgument("index", () -> x.written(0, -1));
        Check.noArgument("index", () -> x.written(0, Integer.MIN_VALUE));
    }

    private static void longestWritten() {
        HomBench x = new HomBench();
        x.setSize(0, 8);
        StringBuilder due = new StringBuilder("8");
        for (int v = 0; v < 8; v++) {
            x.setVertex(0, v, -3);
            due.append(";v").append(v).append("=-3");
        }
        for (int u = 0; u < 8; u++) {
            for (int v = u; v < 8; v++) {
                x.setEdge(0, u, v, -2);
                due.append(';').append(u).append(v).append("=-2");
            }
        }
        for (int index = 0; index < due.length(); index++) {
            Check.due("byte " + index, (int) due.charAt(index), x.written(0, index));
        }
        Check.due("the byte behind", HomBench.NONE, x.written(0, due.length()));
    }
}
