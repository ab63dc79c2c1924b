/** Promises 8 and 9 at the edges that Term II names: texts, tokens, numbers, and what is refused. */
public final class OrdersEdgesTest {
    private static final int NONE = Checks.NONE;
    private static final Checks t = new Checks();

    public static void main(String[] args) {
        promise8BlanksAlone();
        promise8BecomesTheOrders();
        promise8NoTraceOfOrdersAhead();
        promise8Hours();
        promise8NumbersOfAnd();
        promise8NumbersOfWith();
        promise8LongNumbers();
        promise8LinesThatThereAre();
        promise8NoOrderYet();
        promise8HasOneAhead();
        promise8AnyBlanks();
        promise8EachByteBetweenTokens();
        promise8FullTape();
        promise8MostOrders();
        promise8RefusedStay();
        promise9EachTokenInEachPlace();
        promise9TheEnd();
        promise9FirstAndLastPlace();
        promise9OfTheLatest();
        t.close();
    }

    private static void promise8BlanksAlone() {
        GaugeWeekend x = t.chain("promise 8: blanks alone: none", 1, 1);
        t.dueOrders(x, "", 0);
        t.dueOrders(x, " ", 0);
        t.dueOrders(x, " ".repeat(400), 0);
        t.dueOrders(x, "line 0 at 0 with 1", 1);
        t.dueTaken(x, "orders() of the tape that is empty then", x.orders(), 0);
        t.due("the orders are none", x.count(1), 0);
        t.due("begins", x.of(0, 0), NONE);
    }

    private static void promise8BecomesTheOrders() {
        GaugeWeekend x = t.alikeLines("promise 8: the TAPE becomes the ORDERS, none of those ahead of it stay", 3);
        t.dueOrders(x, "line 0 at 9 with 1; line 1 after 0 and 5 with 2", 2);
        t.dueOrders(x, "line 1 at 3 with 4", 1);
        t.due("0 begins", x.of(0, 0), NONE);
        t.due("0 done", x.of(0, 1), NONE);
        t.due("0 gangs", x.of(0, 2), 0);
        t.due("0 is old", x.is(0, 120), 0);
        t.due("1 begins", x.of(1, 0), 3);
        t.due("1 gangs", x.of(1, 2), 4);
        t.due("busy", x.busy(9), 0);
        t.due("all done", x.count(6), 4);
        t.dueFault(x, "line 2 after 1 with 1", 13);
        t.dueOrders(x, "line 0 at 1 with 1", 1);
        t.dueOrders(x, "line 1 at 1 with 1", 1);
        t.dueOrders(x, "line 0 at 2 with 1; line 1 after 0 with 1", 2);
        t.due("at behind after", x.of(1, 0), 3);
        t.dueOrders(x, "line 1 at 0 with 1", 1);
        t.due("at, where after was", x.of(1, 0), 0);
    }

    private static void promise8NoTraceOfOrdersAhead() {
        GaugeWeekend x = t.chain("promise 8: the TAPE becomes the ORDERS, time and again", 4, 1);
        x.transfer(12);
        for (int i = 0; i < 9; i++) {
            int line = i % 4;
            t.dueOrders(x, "line " + line + " at " + i + " with 99", 1);
            for (int other = 0; other < 4; other++) {
                boolean hasOne = other == line;
                t.due("of(" + other + ", 0)", x.of(other, 0), hasOne ? i : NONE);
                t.due("of(" + other + ", 1)", x.of(other, 1), hasOne ? i + 1 : NONE);
                t.due("of(" + other + ", 2)", x.of(other, 2), hasOne ? 99 : 0);
                t.due("is(" + other + ", 120)", x.is(other, 120), hasOne ? 2 : 0);
                t.due("old train", x.way(other, 100, false, other + 1), hasOne ? 113 : 101);
                t.due("new train", x.way(other, 100, true, other + 1), hasOne ? 101 : 113);
            }
            t.due("busy", x.busy(i), 99);
            t.due("all done", x.count(6), i + 1);
        }
    }

    private static void promise8Hours() {
        for (int hour = 0; hour <= 130; hour++) {
            GaugeWeekend x = t.alikeLines("promise 8: HOURS to 100", 1);
            String text = "line 0 at " + hour + " with 1";
            if (hour <= 100) {
                t.dueOrders(x, text, 1);
                t.due("begins", x.of(0, 0), hour);
            } else {
                t.dueFault(x, text, 10);
            }
        }
    }

    private static void promise8NumbersOfAnd() {
        for (int n = 0; n <= 130; n++) {
            GaugeWeekend x = t.alikeLines("promise 8: NUMBERS to 99, of 'and'", 2);
            String text = "line 0 at 1 with 1;line 1 after 0 and " + n + " with 1";
            if (n <= 99) {
                t.dueOrders(x, text, 2);
                t.due("begins", x.of(1, 0), 2 + n);
            } else {
                t.dueFault(x, text, 38);
            }
        }
    }

    private static void promise8NumbersOfWith() {
        for (int n = 0; n <= 130; n++) {
            GaugeWeekend x = t.alikeLines("promise 8: NUMBERS to 99, of 'with' from 1 on", 1);
            String text = "line 0 at 1 with " + n;
            if (n >= 1 && n <= 99) {
                t.dueOrders(x, text, 1);
                t.due("gangs", x.of(0, 2), n);
            } else {
                t.dueFault(x, text, 17);
            }
        }
    }

    /** None of these is small, however many bits of it one looks at. */
    private static void promise8LongNumbers() {
        String[] numbers = {"200", "256", "257", "999", "1000", "1001", "1099", "9999", "10000", "65536", "65537",
            "2147483647", "2147483648", "4294967295", "4294967296", "4294967297", "9223372036854775807",
            "9223372036854775808", "18446744073709551616", "18446744073709551617", "1" + "0".repeat(300),
            "9".repeat(300), "1".repeat(300), "0".repeat(200) + "1" + "0".repeat(100)};
        for (String n : numbers) {
            GaugeWeekend x = t.alikeLines("promise 8: a number of any length", 2);
            t.dueFault(x, "line " + n + " at 1 with 1", 5);
            t.dueFault(x, "line 0 at " + n + " with 1", 10);
            t.dueFault(x, "line 0 at 1 with " + n, 17);
            t.dueFault(x, "line 0 after " + n + " with 1", 13);
            t.dueFault(x, "line 0 at 1 with 1;line 1 after " + n + " with 1", 32);
            t.dueFault(x, "line 0 at 1 with 1;line 1 after 0 and " + n + " with 1", 38);
            t.due("no orders", x.count(1), 0);
        }
        GaugeWeekend x = t.alikeLines("promise 8: a number of any length, though of few", 2);
        t.dueOrders(x, "line 0 at " + "0".repeat(300) + "100 with 0099", 1);
        t.due("begins", x.of(0, 0), 100);
        t.due("gangs", x.of(0, 2), 99);
        t.dueOrders(x, "line 00 at 00 with 01; line 01 after " + "0".repeat(200) + " and 007 with 1", 2);
        t.due("begins", x.of(1, 0), 8);
        t.dueFault(x, "line 0 at 1 with " + "0".repeat(300), 17);
    }

    private static void promise8LinesThatThereAre() {
        t.dueFault(t.fresh("promise 8: LINES that there are"), "line 0 at 1 with 1", 5);
        for (int many = 1; many <= 30; many++) {
            GaugeWeekend x = t.alikeLines("promise 8: LINES that there are", many);
            t.dueOrders(x, "line " + (many - 1) + " at 1 with 1", 1);
            t.due("begins", x.of(many - 1, 0), 1);
            t.dueFault(x, "line " + many + " at 1 with 1", 5);
            t.dueFault(x, "line 0 at 1 with 1; line 1 after " + many + " with 1", many == 1 ? 25 : 33);
        }
    }

    private static void promise8NoOrderYet() {
        GaugeWeekend x = t.alikeLines("promise 8: the LINE of 'line' has no ORDER yet", 30);
        t.dueFault(x, "line 0 at 1 with 1;line 0 at 1 with 1", 24);
        t.dueFault(x, "line 29 at 1 with 1;line 29 at 2 with 2", 25);
        t.dueFault(x, "line 1 at 1 with 1;line 0 at 1 with 1;line 1 after 0 with 1", 43);
        t.dueOrders(x, "line 29 at 1 with 1", 1);
        t.dueOrders(x, "line 29 at 2 with 1", 1);
        t.due("once in each text", x.of(29, 0), 2);
    }

    private static void promise8HasOneAhead() {
        GaugeWeekend x = t.alikeLines("promise 8: that of 'after' has one, ahead", 30);
        t.dueFault(x, "line 0 after 0 with 1", 13);
        t.dueFault(x, "line 0 after 1 with 1;line 1 at 1 with 1", 13);
        t.dueFault(x, "line 1 at 1 with 1;line 0 after 0 with 1", 32);
        t.dueFault(x, "line 1 at 1 with 1;line 0 after 2 with 1;line 2 at 1 with 1", 32);
        t.dueOrders(x, "line 29 at 1 with 1;line 0 after 29 with 1;line 28 after 0 and 0 with 1;line 1 after 29 with 1", 4);
        t.due("as the other one is done", x.of(0, 0), 2);
        t.due("as that one is done", x.of(28, 0), 3);
        t.due("as the first one is done", x.of(1, 0), 2);
        t.dueFault(x, "line 2 after 29 with 1", 13);
        t.due("refused, they stay", x.count(1), 4);
    }

    private static void promise8AnyBlanks() {
        GaugeWeekend x = t.alikeLines("promise 8: any blanks between TOKENS", 2);
        String[] tokens = {"line", "0", "at", "1", "with", "2", ";", "line", "1", "after", "0", "and", "3", "with", "4"};
        for (int blanks : new int[] {0, 1, 2, 20}) {
            String text = String.join(" ".repeat(blanks), tokens);
            t.dueOrders(x, text, 2);
            t.due("begins", x.of(1, 0), 5);
            t.dueOrders(x, " ".repeat(blanks) + text, 2);
            t.dueOrders(x, text + " ".repeat(blanks), 2);
        }
        t.dueFault(x, "li ne 0 at 1 with 1", 0);
        t.dueFault(x, "line 0 at 1 0 with 1", 12);
        t.dueFault(x, "line 0 a t 1 with 1", 7);
        t.dueFault(x, "line 0 at 1 wi th 1", 12);
        t.dueFault(x, "line 0 at 1 with1 2", 18);
    }

    /** Which bytes are blanks, letters, digits, and which are tokens by themselves. */
    private static void promise8EachByteBetweenTokens() {
        for (char b = 0; b < 256; b++) {
            GaugeWeekend x = t.alikeLines("promise 8: blanks (32), letters a .. z, digits; byte " + (int) b, 1);
            boolean isDigit = "0123456789".indexOf(b) >= 0;
            boolean isLetter = "abcdefghijklmnopqrstuvwxyz".indexOf(b) >= 0;
            dueByte(x, "line" + b + "0 at 1 with 1", b == ' ' || b == '0', isLetter ? 0 : 4);
            dueByte(x, "line 0 at 1" + b + "with 1", b == ' ' || isDigit, 11);
            dueByte(x, "line 0 at 1 with 1" + b, b == ' ' || isDigit, b == ';' ? 19 : 18);
            dueByte(x, b + "line 0 at 1 with 1", b == ' ', 0);
            dueByte(x, "" + b, b == ' ', 0);
        }
    }

    private static void dueByte(GaugeWeekend x, String text, boolean isGood, int fault) {
        if (isGood) {
            t.dueOrders(x, text, text.equals(" ") ? 0 : 1);
        } else {
            t.dueFault(x, text, fault);
        }
    }

    private static void promise8FullTape() {
        GaugeWeekend x = t.alikeLines("promise 8: a TEXT of at most 400 bytes", 1);
        String text = "line 0 at 7 with";
        String wide = text + " ".repeat(400 - 2 - text.length());
        t.dueOrders(x, wide + "42", 1);
        t.due("both digits are read", x.of(0, 2), 42);
        t.dueOrders(x, wide + "4 ", 1);
        t.due("one digit is read", x.of(0, 2), 4);
        t.dueFault(x, wide + "4;", 400);
        t.dueFault(x, wide + " ;", 399);
        t.dueFault(x, wide + "  ", 400);
        t.dueFault(x, wide + " 0", 399);
        t.dueFault(x, text + " 1" + " ".repeat(381) + "l", 399);
    }

    private static void promise8MostOrders() {
        GaugeWeekend x = t.alikeLines("promise 8: as many ORDERS as 400 bytes have room for", 30);
        StringBuilder text = new StringBuilder();
        for (int line = 0; line < 27; line++) {
            text.append(line == 0 ? "" : ";").append("line").append(line).append("at0with1");
        }
        t.due("bytes", text.length(), 394);
        t.dueOrders(x, text.toString(), 27);
        t.due("the last one", x.of(26, 1), 1);
        t.dueFault(x, text + ";", 395);
        t.dueFault(x, text + ";line", 399);
        t.dueFault(x, text + ";lin1", 395);
        t.due("refused, they stay", x.count(1), 27);
        t.due("busy", x.busy(0), 27);
    }

    private static void promise8RefusedStay() {
        GaugeWeekend x = t.alikeLines("promise 8: -6: they stay, FAULT is told, the TAPE is empty", 3);
        x.rates(1, 1);
        t.dueOrders(x, "line 0 at 5 with 2; line 1 after 0 and 4 with 3", 2);
        String[] wrong = {"line", "x", "line 2 at 8 with 9;", "line 1 at 0 with 9; line 0 at 0 with 9; line 2 at 0 with 0",
            "line 0 at 99 with 99 line", ";"};
        for (String text : wrong) {
            t.dueRefused(x, "'" + text + "'", Checks.order(x, text), Checks.BAD_TEXT);
            t.due("count(1)", x.count(1), 2);
            t.due("count(5)", x.count(5), 0);
            t.due("count(6)", x.count(6), 11);
            int[][] hours = {{5, 6, 2}, {10, 11, 3}, {NONE, NONE, 0}};
            for (int line = 0; line < 3; line++) {
                for (int what = 0; what < 3; what++) {
                    t.due("of(" + line + ", " + what + ")", x.of(line, what), hours[line][what]);
                }
            }
            t.due("busy(5)", x.busy(5), 2);
            t.due("busy(0)", x.busy(0), 0);
            t.due("is(2, 120)", x.is(2, 120), 0);
            t.due("way", x.way(0, 10, false, 1), 11);
        }
        t.due("behind a refused one the tape begins anew", x.feed(0x20202020, 0x20202020, 0x20202020, 0x20202020, 0x20202020), 20);
        t.dueTaken(x, "orders", x.orders(), 0);
        t.due("count(1)", x.count(1), 0);
    }

    /** Each token behind each beginning: it goes on there, or is the fault. */
    private static void promise9EachTokenInEachPlace() {
        dueGoOn("", "line");
        dueGoOn("line", "0 1 2");
        dueGoOn("line 0", "at after");
        dueGoOn("line 0 after", "");
        dueGoOn("line 0 at", "0 1 2 3 99 100");
        dueGoOn("line 0 at 1", "with");
        dueGoOn("line 0 at 1 with", "1 2 3 99");
        dueGoOn("line 0 at 1 with 2", "; END");
        dueGoOn("line 0 at 1 with 2 ;", "line");
        dueGoOn("line 0 at 1 with 2 ; line", "1 2");
        dueGoOn("line 0 at 1 with 2 ; line 1", "at after");
        dueGoOn("line 0 at 1 with 2 ; line 1 at", "0 1 2 3 99 100");
        dueGoOn("line 0 at 1 with 2 ; line 1 after", "0");
        dueGoOn("line 0 at 1 with 2 ; line 1 after 0", "and with");
        dueGoOn("line 0 at 1 with 2 ; line 1 after 0 with", "1 2 3 99");
        dueGoOn("line 0 at 1 with 2 ; line 1 after 0 with 3", "; END");
        dueGoOn("line 0 at 1 with 2 ; line 1 after 0 and", "0 1 2 3 99");
        dueGoOn("line 0 at 1 with 2 ; line 1 after 0 and 1", "with");
        dueGoOn("line 0 at 1 with 2 ; line 1 after 0 and 1 with", "1 2 3 99");
        dueGoOn("line 0 at 1 with 2 ; line 1 after 0 and 1 with 3", "; END");
        dueGoOn("line 0 at 1 with 2 ; line 1 after 0 with 3 ; line", "2");
        dueGoOn("line 0 at 1 with 2 ; line 1 after 0 with 3 ; line 2", "at after");
        dueGoOn("line 0 at 1 with 2 ; line 1 after 0 with 3 ; line 2 after", "0 1");
        dueGoOn("line 0 at 1 with 2 ; line 1 after 0 with 3 ; line 2 after 1 with 4", "; END");
        dueGoOn("line 0 at 1 with 2 ; line 1 after 0 with 3 ; line 2 after 1 with 4 ;", "line");
        dueGoOn("line 0 at 1 with 2 ; line 1 after 0 with 3 ; line 2 after 1 with 4 ; line", "");
    }

    private static void dueGoOn(String beginning, String tokens) {
        String[] all = {"line", "at", "after", "and", "with", ";", "0", "1", "2", "3", "99", "100", "101", "lines", "lin",
            "a", "ands", "?", "-", ",", "L", "LINE"};
        String allowed = " " + tokens + " ";
        int orders = beginning.isEmpty() ? 0 : beginning.split(";").length;
        for (String blanks : new String[] {" ", "    "}) {
            String ahead = beginning + blanks;
            GaugeWeekend x = t.alikeLines("promise 9: the first TOKEN that can't go on", 3);
            for (String token : all) {
                boolean goesOn = allowed.contains(" " + token + " ");
                t.dueFault(x, ahead + token + blanks + "?", ahead.length() + (goesOn ? token.length() + blanks.length() : 0));
            }
            if (allowed.contains(" END ")) {
                t.dueOrders(x, ahead, orders);
            } else if (!beginning.isEmpty()) {
                t.dueFault(x, ahead, ahead.length());
            }
        }
    }

    private static void promise9TheEnd() {
        String text = "line 0 at 1 with 2 ; line 1 after 0 and 3 with 4";
        for (int n = 1; n < text.length(); n++) {
            GaugeWeekend x = t.alikeLines("promise 9: the end's: the TEXT's length", 2);
            String part = text.substring(0, n);
            String token = part.substring(part.lastIndexOf(' ') + 1);
            boolean isWhole = token.isEmpty() || text.charAt(n) == ' ' || token.matches("[0-9]+");
            if (n == 18 || n == 19) {
                t.dueOrders(x, part, 1);
            } else {
                t.dueFault(x, part, isWhole ? n : n - token.length());
            }
        }
        GaugeWeekend x = t.alikeLines("promise 9: the end's, behind blanks", 2);
        t.dueFault(x, "line   ", 7);
        t.dueFault(x, "   line", 7);
        t.dueFault(x, "line" + " ".repeat(396), 400);
    }

    private static void promise9FirstAndLastPlace() {
        GaugeWeekend x = t.alikeLines("promise 9: its place, 0 .. 400", 1);
        t.dueFault(x, "0", 0);
        t.dueFault(x, "linel" + "x".repeat(395), 0);
        t.dueFault(x, " ".repeat(399) + "z", 399);
        t.dueFault(x, " ".repeat(396) + "line", 400);
        t.dueFault(x, " ".repeat(395) + "line0", 400);
        t.dueFault(x, " ".repeat(395) + "line1", 399);
    }

    private static void promise9OfTheLatest() {
        GaugeWeekend x = t.alikeLines("promise 9: FAULT of the latest orders(), NONE without", 1);
        t.due("ahead of any", x.fault(), NONE);
        t.dueFault(x, "line 0 at x", 10);
        x.feed(0, 0, 0, 0, 0);
        x.end(0);
        x.line(0, 0, 0, 0, true);
        x.rates(0, 0);
        x.way(0, 0, false, 9);
        t.due("other calls leave it", x.fault(), 10);
        t.due("and itself", x.fault(), 10);
        t.dueFault(x, "?", 0);
        t.dueOrders(x, "line 0 at 1 with 1", 1);
        t.dueFault(x, "line ?", 5);
        t.dueOrders(x, "", 0);
        t.due("without", x.fault(), NONE);
    }
}
