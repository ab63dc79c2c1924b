/** Counts answers that are not as due, and feeds texts to the tape. */
final class Checks {
    private int asked = 0;
    private int wrong = 0;
    private String about = "";

    void about(String what) {
        about = what;
    }

    void due(String call, long got, long want) {
        asked++;
        if (got != want) {
            wrong++;
            System.out.println(about + ": " + call + " answered " + got + ", due is " + want);
        }
    }

    boolean isClean() {
        return wrong == 0;
    }

    void close() {
        System.out.println((asked - wrong) + " answers as due, " + wrong + " not");
        if (wrong != 0 || asked == 0) {
            System.exit(1);
        }
    }

    /** Puts a text of bytes 0 .. 255 on an empty tape, in feeds of twenty bytes. */
    static void feedText(GaugeWeekend x, String text) {
        x.end(0);
        for (int from = 0; from < text.length(); from += 20) {
            x.feed(fourBytes(text, from), fourBytes(text, from + 4), fourBytes(text, from + 8),
                    fourBytes(text, from + 12), fourBytes(text, from + 16));
        }
        x.end(text.length());
    }

    static int order(GaugeWeekend x, String text) {
        feedText(x, text);
        return x.orders();
    }

    private static int fourBytes(String text, int from) {
        int number = 0;
        for (int i = from; i < from + 4; i++) {
            number = number << 8 | (i < text.length() ? text.charAt(i) : 'x');
        }
        return number;
    }
}
