import java.util.Objects;

/** What the tests share: it counts and prints the answers that are not the ones that are due. */
final class Check {
    // More than the longest text of a graph has: 1 + 8 * 6 + 36 * 6 bytes.
    private static final int LONGEST_TEXT = 300;
    // Longer runs of a test want more: java -Dseconds=600 ...
    private static final int SECONDS = Integer.getInteger("seconds", 60);

    private static int wrong = 0;
    private static int checks = 0;

    static {
        watch();
    }

    private Check() {
    }

    interface Call {
        Object answer();
    }

    interface BenchCall {
        Object answer(HomBench bench);
    }

    /** A call on a bench that gets a number as one of its arguments. */
    interface NumberCall {
        Object answer(HomBench bench, int number);
    }

    interface Maker {
        HomBench bench();
    }

    /** A call that never answers is wrong as well: the test fails then instead of waiting on. */
    private static void watch() {
        Thread watch = new Thread(() -> {
            try {
                Thread.sleep(1000L * SECONDS);
            } catch (InterruptedException e) {
                return;
            }
            System.out.println("no end after " + SECONDS + " seconds");
            Runtime.getRuntime().halt(1);
        });
        watch.setDaemon(true);
        watch.start();
    }

    static void due(String call, Object want, Object got) {
        checks++;
        boolean same = want instanceof Number && got instanceof Number
                ? ((Number) want).longValue() == ((Number) got).longValue()
                : Objects.equals(want, got);
        if (!same) {
            wrong++;
            System.out.println(call + " answered " + got + ", due is " + want);
        }
    }

    /** What a call answers, or the simple name of the exception's class that it throws. */
    static Object outcome(Call call) {
        try {
            return call.answer();
        } catch (RuntimeException e) {
            return e.getClass().getSimpleName();
        }
    }

    static void noIndex(String what, Call call) {
        due(what, "IndexOutOfBoundsException", outcome(call));
    }

    static void noArgument(String what, Call call) {
        due(what, "IllegalArgumentException", outcome(call));
    }

    static void noState(String what, Call call) {
        due(what, "IllegalStateException", outcome(call));
    }

    /** The least and the greatest number that is taken, and the first ones beyond on either side. */
    static void arguments(String what, Maker maker, int low, int high, NumberCall call) {
        range(what, "IllegalArgumentException", maker, low, high, call);
    }

    /** As arguments, where a number beyond is no graph, vertex or place; high is below low if none is one. */
    static void indexes(String what, Maker maker, int low, int high, NumberCall call) {
        range(what, "IndexOutOfBoundsException", maker, low, high, call);
    }

    private static void range(String what, String exception, Maker maker, int low, int high, NumberCall call) {
        for (int taken = low; taken <= high; taken += Math.max(1, high - low)) {
            int number = taken;
            HomBench bench = maker.bench();
            Object answer = outcome(() -> call.answer(bench, number));
            due(what + " with " + number + " throws", false, answer instanceof String);
        }
        int[] beyond = {low - 1, high + 1, Integer.MIN_VALUE, Integer.MAX_VALUE};
        for (int number : beyond) {
            refused(what + " with " + number, exception, maker, bench -> call.answer(bench, number));
        }
    }

    /** A call that throws, and changes nothing: the bench goes on like one that was not called. */
    static void refused(String what, String exception, Maker maker, BenchCall call) {
        HomBench bench = maker.bench();
        due(what, exception, outcome(() -> call.answer(bench)));
        due(what + " leaves", story(maker.bench()), story(bench));
    }

    /** All that a bench holds: its graphs, its text and its saved states, which this uses up. */
    static String story(HomBench bench) {
        StringBuilder story = new StringBuilder().append(bench.digest());
        // Four states are kept; the fifth call shows that there are no more.
        for (int undone = 0; undone < 5; undone++) {
            story.append(' ').append(outcome(() -> bench.undo())).append(' ').append(bench.digest());
        }
        story.append(' ').append(bench.parse(0)).append(' ').append(bench.digest());
        return story.toString();
    }

    /** The graph written as a text. */
    static String text(HomBench bench, int graph) {
        StringBuilder text = new StringBuilder();
        int value = bench.written(graph, 0);
        while (value != HomBench.NONE && text.length() < LONGEST_TEXT) {
            text.append((char) value);
            value = bench.written(graph, text.length());
        }
        return text.toString();
    }

    /** Makes a graph the one that a text describes, and answers what parse answers. */
    static int read(HomBench bench, int graph, String text) {
        bench.clearText();
        for (int i = 0; i < text.length(); i++) {
            bench.append(text.charAt(i));
        }
        return bench.parse(graph);
    }

    static void finish(String test) {
        System.out.println(test + ": " + (checks - wrong) + " of " + checks + " answers are as due");
        if (wrong != 0) {
            System.exit(1);
        }
    }
}
