import java.util.Objects;

/** What the tests share: it counts and prints the answers that are not the ones that are due. */
final class Check {
    private static int wrong = 0;
    private static int checks = 0;

    private Check() {
    }

    interface Call {
        Object answer();
    }

    static void due(String call, Object want, Object got) {
        checks++;
        boolean same = want instanceof Number && got instanceof Number
                ? ((Number) want).longValue() == ((Number) got).longValue()
                : Objects.equals(want, got);
        if (!same) {
            wrong++;
            System.out.println(call + " answered " + got + ", due is " + want);
        }
    }

    /** What a call answers, or the simple name of the exception's class that it throws. */
    static Object outcome(Call call) {
        try {
            return call.answer();
        } catch (RuntimeException e) {
            return e.getClass().getSimpleName();
        }
    }

    static void noIndex(String what, Call call) {
        due(what, "IndexOutOfBoundsException", outcome(call));
    }

    static void noArgument(String what, Call call) {
        due(what, "IllegalArgumentException", outcome(call));
    }

    static void noState(String what, Call call) {
        due(what, "IllegalStateException", outcome(call));
    }

    /** The graph written as a text. */
    static String text(HomBench bench, int graph) {
        StringBuilder text = new StringBuilder();
        for (int index = 0; bench.written(graph, index) != HomBench.NONE; index++) {
            text.append((char) bench.written(graph, index));
        }
        return text.toString();
    }

    /** All that can be seen of the state without a change. */
    static String state(HomBench bench) {
        StringBuilder state = new StringBuilder();
        for (int graph = 0; graph < 4; graph++) {
            state.append(text(bench, graph)).append(' ');
        }
        return state.append(bench.digest()).toString();
    }

    /** Makes a graph the one that a text describes, and answers what parse answers. */
    static int read(HomBench bench, int graph, String text) {
        bench.clearText();
        for (int i = 0; i < text.length(); i++) {
            bench.append(text.charAt(i));
        }
        return bench.parse(graph);
    }

    static void finish(String test) {
        System.out.println(test + ": " + (checks - wrong) + " of " + checks + " answers are as due");
        if (wrong != 0) {
            System.exit(1);
        }
    }
}
