/** The empty text and the full one, and, for each place of the grammar, which of all bytes can stand there. */
final class TextBoundaryTest {
    private static final String DIGITS = "012345678";
    private static final int LONGEST = 120;

    public static void main(String[] args) {
        emptyText();
        lengths();
        allBytes();
        fullText();
        fullTextWithErrors();
        firstByte();
        for (int size = 0; size <= 8; size++) {
            behindTheSize(size);
        }
        for (int size = 1; size <= 8; size++) {
            vertexItems(size);
            edgeItems(size);
        }
        weights();
        defaults();
        laterItemsWin();
        manyItems();
        laterErrors();
        writtenAndRead();
        Check.finish("TextBoundaryTest");
    }

    private static int parsed(String text) {
        return Check.read(new HomBench(), 0, text);
    }

    private static String made(String text) {
        HomBench x = new HomBench();
        Check.read(x, 0, text);
        return Check.text(x, 0);
    }

    private static void emptyText() {
        HomBench x = new HomBench();
        x.make(0, 4, 2);
        Check.due("the text ends too early", -10, x.parse(0));
        Check.due("the graph stays", "2;00;01;11", Check.text(x, 0));
        Check.due("clearText", 0, x.clearText());
        Check.due("the first byte", 1, x.append('1'));
        Check.due("clearText", 1, x.clearText());
        Check.due("empty again", -10, x.parse(0));
        Check.due("only make was saved", 0, x.undo());
    }

    private static void lengths() {
        HomBench x = new HomBench();
        for (int length = 1; length <= LONGEST; length++) {
            Check.due("append", length, x.append(length));
        }
        Check.noState("one byte more", () -> x.append(0));
        Check.noState("one byte more", () -> x.append(127));
        Check.due("clearText", LONGEST, x.clearText());
        Check.due("clearText", 0, x.clearText());
        for (int length = 1; length <= LONGEST; length++) {
            Check.due("append again", length, x.append('0'));
        }
        Check.noState("full again", () -> x.append('0'));
    }

    private static void allBytes() {
        HomBench x = new HomBench();
        for (int value = 0; value <= 127; value++) {
            Check.due("byte " + value, value % 100 + 1, x.append(value));
            if (value == 99) {
                Check.due("clearText", 100, x.clearText());
            }
        }
        Check.noArgument("byte 128", () -> x.append(128));
        Check.noArgument("byte -1", () -> x.append(-1));
        // As bytes these two would be a digit.
        Check.noArgument("byte 256 + 48", () -> x.append(304));
        Check.noArgument("byte 48 - 256", () -> x.append(-208));
    }

    private static void fullText() {
        String text = "8" + ";67".repeat(38) + ";v7=3";
        HomBench x = new HomBench();
        Check.due("the longest text", LONGEST, text.length());
        Check.due("the most items", 39, Check.read(x, 3, text));
        Check.due("what it describes", "8;v7=3;67", Check.text(x, 3));
        Check.noState("one byte more", () -> x.append(';'));
        Check.due("it is as it was", 39, x.parse(2));
        Check.due("length", LONGEST, x.clearText());
        String longItems = "2" + ";v1=-3".repeat(19) + ";00=2";
        Check.due("the longest text", LONGEST, longItems.length());
        Check.due("items", 20, parsed(longItems));
        Check.due("its last byte counts", "2;v1=-3;00=2", made(longItems));
    }

    private static void fullTextWithErrors() {
        String body = "8" + ";67".repeat(39);
        Check.due("118 bytes", 39, parsed(body));
        Check.due("an item that only begins", -129, parsed(body + ";"));
        Check.due("the end comes too early", -130, parsed(body + ";6"));
        Check.due("the end comes too early", -130, parsed(body + ";v"));
        Check.due("the end comes too early", -130, parsed(body + "=-"));
        Check.due("the last byte is wrong", -129, parsed(body + ";8"));
        Check.due("the last byte is wrong", -129, parsed(body + "=3"));
        Check.due("the last but one is wrong", -128, parsed(body + "-1"));
        Check.due("the last weight", 39, parsed(body + "=2"));
        Check.due("the first byte is wrong", -10, parsed("9" + body));
        Check.due("the second byte is wrong", -11, parsed("8" + body));
    }

    /** Which bytes can stand behind a beginning; with all others the error is at this place. */
    private static void canStand(String beginning, String signs, boolean complete) {
        int error = -10 - beginning.length();
        int alone = parsed(beginning);
        Check.due("\"" + beginning + "\" is a whole text", complete, alone >= 0);
        if (!complete) {
            Check.due("\"" + beginning + "\" ends too early", error, alone);
        }
        for (int value = 0; value <= 127; value++) {
            boolean stands = signs.indexOf(value) >= 0;
            String text = beginning + (char) value;
            Check.due("an error at the end of \"" + text + "\"", !stands, parsed(text) == error);
        }
    }

    private static void firstByte() {
        canStand("", DIGITS, false);
        for (int size = 0; size <= 8; size++) {
            Check.due("no items", 0, parsed("" + size));
            Check.due("as many vertices", "" + size, made("" + size));
        }
    }

    private static void behindTheSize(int size) {
        String vertices = DIGITS.substring(0, size);
        canStand("" + size, ";", true);
        canStand(size + ";", vertices + "v", false);
        canStand(size + ";v", vertices, false);
    }

    private static void vertexItems(int size) {
        String last = size + ";v" + (size - 1);
        canStand(last, "=", false);
        canStand(last + "=", "-0123", false);
        canStand(last + "=-", "0123", false);
        canStand(last + "=3", ";", true);
        canStand(last + "=-3", ";", true);
        canStand(last + "=0", ";", true);
        canStand(last + "=-0", ";", true);
        canStand(last + "=1;", DIGITS.substring(0, size) + "v", false);
    }

    private static void edgeItems(int size) {
        String last = size + ";" + (size - 1);
        canStand(last, DIGITS.substring(0, size), false);
        canStand(last + "0", ";=", true);
        canStand(last + "0=", "-012", false);
        canStand(last + "0=-", "012", false);
        canStand(last + "0=2", ";", true);
        canStand(last + "0=-2", ";", true);
        canStand(last + "0=0", ";", true);
        canStand(last + "0=-0", ";", true);
        canStand(last + "0;", DIGITS.substring(0, size) + "v", false);
        canStand(last + "0=1;", DIGITS.substring(0, size) + "v", false);
    }

    private static void weights() {
        for (int weight = -4; weight <= 4; weight++) {
            int place = weight < 0 ? 6 : 5;
            boolean taken = Math.abs(weight) <= 3;
            Check.due("v0=" + weight, taken ? 1 : -10 - place, parsed("1;v0=" + weight));
            String text = weight == 1 ? "1" : taken ? "1;v0=" + weight : "0";
            Check.due("v0=" + weight, text, made("1;v0=" + weight));
            taken = Math.abs(weight) <= 2;
            Check.due("00=" + weight, taken ? 1 : -10 - place, parsed("1;00=" + weight));
            text = weight == 0 ? "1" : weight == 1 ? "1;00" : taken ? "1;00=" + weight : "0";
            Check.due("00=" + weight, text, made("1;00=" + weight));
        }
    }

    private static void defaults() {
        HomBench x = new HomBench();
        x.make(0, 4, 3);
        x.setVertex(0, 2, -3);
        Check.due("all other weights", 1, Check.read(x, 0, "3;01"));
        Check.due("all other weights", "3;01", Check.text(x, 0));
        for (int v = 0; v < 3; v++) {
            Check.due("all other vertex weights are 1", 1, x.vertex(0, v, 0));
            Check.due("all other edge weights are 0", 0, x.edge(0, v, 2));
        }
    }

    private static void laterItemsWin() {
        Check.due("a vertex", "1;v0=3", made("1;v0=-3;v0=3"));
        Check.due("a vertex", "1", made("1;v0=-3;v0=1"));
        Check.due("an edge", "2;01=-2", made("2;01=2;01=-2"));
        Check.due("an edge from the other side", "2;01=-2", made("2;01=2;10=-2"));
        Check.due("without a weight", "2;01", made("2;01=2;10"));
        Check.due("no edge any more", "2", made("2;01;10=0"));
        Check.due("no loop any more", "2", made("2;11=-2;11=-0"));
        Check.due("each counts as an item", 3, parsed("2;01;10;01=0"));
    }

    private static void manyItems() {
        StringBuilder text = new StringBuilder("8");
        for (int v = 0; v < 8; v++) {
            text.append(";v").append(v).append("=-3");
        }
        for (int v = 0; v < 8; v++) {
            text.append(';').append(v).append(v).append("=-2");
        }
        Check.due("items of six bytes", 16, parsed(text.toString()));
        Check.due("the same text", text.toString(), made(text.toString()));
        text.append(";07=-2;70=-2;01");
        Check.due("112 bytes", 112, text.length());
        Check.due("items", 19, parsed(text.toString()));
        text.append(";34=-2;6");
        Check.due("the end comes too early", -130, parsed(text.toString()));
    }

    private static void laterErrors() {
        HomBench x = new HomBench();
        x.make(0, 0, 2);
        String before = Check.text(x, 0);
        String[] texts = {"1;v0=2;00;01", "8;01;07;77;78", "3;v0=2;v1=2;v2=4", "2;01=2;11=-3", "2;v=1", "2;v0;",
            "2;=1"};
        int[] places = {11, 12, 15, 11, 3, 4, 2};
        for (int i = 0; i < texts.length; i++) {
            Check.due("parse of " + texts[i], -10 - places[i], Check.read(x, 0, texts[i]));
            Check.due("nothing changes", before, Check.text(x, 0));
        }
        Check.due("nothing was saved", 0, x.undo());
    }

    /** Each byte of the longest text of a graph, and that such a text is read as the same graph again. */
    private static void writtenAndRead() {
        HomBench x = new HomBench();
        x.setSize(0, 8);
        StringBuilder text = new StringBuilder("8");
        for (int v = 0; v < 8; v++) {
            x.setVertex(0, v, -2);
            text.append(";v").append(v).append("=-2");
        }
        for (int u = 0; u < 8; u++) {
            for (int v = u; v < 8; v++) {
                x.setEdge(0, v, u, -1);
                text.append(';').append(u).append(v).append("=-1");
            }
        }
        Check.due("1 + 8 * 6 + 36 * 6 bytes", 265, text.length());
        Check.due("the longest text", text.toString(), Check.text(x, 0));
        Check.due("its last byte", (int) '1', x.written(0, 264));
        Check.due("no byte behind it", HomBench.NONE, x.written(0, 265));
        Check.due("the weight 1 is not written", "2;01", made("2;v0=1;v1=1;01=1"));
        Check.due("the weight 0 of a vertex is", "1;v0=0", made("1;v0=0"));
    }
}
