/** Counts answers that are not as due; makes objects and feeds texts for the tests. */
final class Checks {
    static final int LEAST = Integer.MIN_VALUE;
    static final int MOST = Integer.MAX_VALUE;
    static final int NONE = GaugeWeekend.NONE;
    static final int BAD_NUMBER = -1;
    static final int NO_SUCH = -2;
    static final int NO_ROOM = -5;
    static final int BAD_TEXT = -6;
    static final int NO_WAY = -6;

    private int asked = 0;
    private int wrong = 0;
    private String about = "";

    void about(String what) {
        about = what;
    }

    void due(String call, long got, long want) {
        asked++;
        if (got != want) {
            wrong++;
            System.out.println(about + ": " + call + " answered " + got + ", due is " + want);
        }
    }

    boolean isClean() {
        return wrong == 0;
    }

    void close() {
        System.out.println((asked - wrong) + " answers as due, " + wrong + " not");
        if (wrong != 0 || asked == 0) {
            System.exit(1);
        }
    }

    GaugeWeekend fresh(String what) {
        about(what);
        return new GaugeWeekend();
    }

    /** Places 0, 1, 2 .. in a row, one line each of ten miles and that many hours. */
    GaugeWeekend chain(String what, int lines, int hours) {
        GaugeWeekend x = fresh(what);
        for (int i = 0; i < lines; i++) {
            x.line(i, i + 1, 10, hours, true);
        }
        return x;
    }

    /** So many lines of a mile and an hour, all between places 0 and 1. */
    GaugeWeekend alikeLines(String what, int lines) {
        GaugeWeekend x = fresh(what);
        for (int i = 0; i < lines; i++) {
            x.line(0, 1, 1, 1, true);
        }
        return x;
    }

    /** So many cars in place 0 from hour 0 on. */
    GaugeWeekend alikeCars(String what, int cars) {
        GaugeWeekend x = fresh(what);
        for (int i = 0; i < cars; i++) {
            x.car(0, 0);
        }
        return x;
    }

    /** A call of those that tell the status, just made: its answer, and that it was not refused. */
    void dueTaken(GaugeWeekend x, String call, int answer, int want) {
        due(call, answer, want);
        due("status() behind " + call, x.status(), 0);
    }

    /** The same of a call that is refused. */
    void dueRefused(GaugeWeekend x, String call, int answer, int by) {
        due(call, answer, by);
        due("status() behind " + call, x.status(), by);
    }

    void dueSteps(GaugeWeekend x, int... steps) {
        due("step(-1)", x.step(-1), steps.length);
        for (int i = 0; i < steps.length; i++) {
            due("step(" + i + ")", x.step(i), steps[i]);
        }
        due("step behind", x.step(steps.length), NONE);
    }

    /** has() of cars 0, 1 .. */
    void dueHas(GaugeWeekend x, int... in) {
        for (int car = 0; car < in.length; car++) {
            due("has(" + car + ")", x.has(car), in[car]);
        }
    }

    /** A text that is refused, its fault, and that the tape is empty then. */
    void dueFault(GaugeWeekend x, String text, int place) {
        dueRefused(x, "orders() of '" + text + "'", order(x, text), BAD_TEXT);
        due("fault() of '" + text + "'", x.fault(), place);
        due("count(5) behind '" + text + "'", x.count(5), 0);
    }

    void dueOrders(GaugeWeekend x, String text, int many) {
        dueTaken(x, "orders() of '" + text + "'", order(x, text), many);
        due("fault() of '" + text + "'", x.fault(), NONE);
        due("count(1) behind '" + text + "'", x.count(1), many);
        due("count(5) behind '" + text + "'", x.count(5), 0);
    }

    /** Puts a text of bytes 0 .. 255 on an empty tape, in feeds of twenty bytes. */
    static void feedText(GaugeWeekend x, String text) {
        x.end(0);
        for (int from = 0; from < text.length(); from += 20) {
            feedTwenty(x, text, from);
        }
        x.end(text.length());
    }

    /** One feed of a text's bytes from a place on; 'x' for those that it has not. */
    static int feedTwenty(GaugeWeekend x, String text, int from) {
        return x.feed(fourBytes(text, from), fourBytes(text, from + 4), fourBytes(text, from + 8),
                fourBytes(text, from + 12), fourBytes(text, from + 16));
    }

    static int order(GaugeWeekend x, String text) {
        feedText(x, text);
        return x.orders();
    }

    private static int fourBytes(String text, int from) {
        int number = 0;
        for (int i = from; i < from + 4; i++) {
            number = number << 8 | (i < text.length() ? text.charAt(i) : 'x');
        }
        return number;
    }
}
