/** Promises 1 to 5 and 10 to 13 at the edges that Terms I and II name: lines, rates, gangs, hours. */
public final class LinesEdgesTest {
    private static final int LEAST = Checks.LEAST;
    private static final int MOST = Checks.MOST;
    private static final int NONE = Checks.NONE;
    private static final int BAD_NUMBER = Checks.BAD_NUMBER;
    private static final Checks t = new Checks();

    public static void main(String[] args) {
        promise1NothingIsThere();
        promise1FirstNumbers();
        promise1ObjectsShareNothing();
        promise2Places();
        promise2Miles();
        promise2Hours();
        promise2Spikes();
        promise2ThirtyLines();
        promise2RefusedChangesNothing();
        promise3Rates();
        promise3RefusedChangesNeither();
        promise3RatesOfOrdersInForce();
        promise4Gangs();
        promise5Transfer();
        promise10WhichLineAndWhat();
        promise10WithoutOrder();
        promise10Hours();
        promise10RoundedUp();
        promise11WhichLineAndHour();
        promise11FirstAndLastHourOfEach();
        promise11AtBothEndsOfTheHours();
        promise12Hours();
        promise12AllGangs();
        promise13FirstAndLastHour();
        promise13AsManyAsThereAre();
        t.close();
    }

    private static void promise1NothingIsThere() {
        GaugeWeekend x = t.fresh("promise 1: No LINES, ORDERS, CARS");
        t.due("status ahead of any", x.status(), 0);
        t.due("fault ahead of any", x.fault(), NONE);
        for (int what = 0; what <= 6; what++) {
            t.due("count(" + what + ")", x.count(what), 0);
        }
        for (int what = 0; what <= 2; what++) {
            t.due("of(0, " + what + ")", x.of(0, what), NONE);
        }
        for (int hour = 0; hour <= 120; hour++) {
            t.due("busy(" + hour + ")", x.busy(hour), 0);
            t.due("is(0, " + hour + ")", x.is(0, hour), NONE);
        }
        t.due("lack", x.lack(), NONE);
        for (int place = 0; place <= 15; place++) {
            t.due("comes(0, " + place + ")", x.comes(0, place), NONE);
        }
        t.due("has", x.has(0), NONE);
        t.due("under", x.under(0, 0, 0), NONE);
        t.due("step of no way", x.step(0), NONE);
        t.dueTaken(x, "pushed", x.pushed(120), 0);
        t.due("end(0)", x.end(0), 0);
        t.due("end(1)", x.end(1), NONE);
        t.dueTaken(x, "orders() of an empty tape", x.orders(), 0);
    }

    private static void promise1FirstNumbers() {
        GaugeWeekend x = t.fresh("promise 1 and Terms I, III, IV: what holds at first");
        t.dueTaken(x, "gangs, 20 at first", x.gangs(20), 20);
        t.dueTaken(x, "transfer, 3 at first", x.transfer(3), 3);
        for (int place = 0; place <= 15; place++) {
            t.dueTaken(x, "pushers, 0 at first", x.shop(place, 9), 0);
        }
        x.line(0, 1, 8, 1, true);
        x.line(0, 1, 8, 1, false);
        Checks.order(x, "line 0 at 0 with 1; line 1 at 0 with 1");
        t.due("4 miles, set", x.of(0, 1), 2);
        t.due("2 miles, others", x.of(1, 1), 4);
    }

    private static void promise1ObjectsShareNothing() {
        GaugeWeekend x = t.chain("promise 1: another object is new", 1, 1);
        x.rates(20, 20);
        x.gangs(0);
        x.transfer(0);
        x.shop(0, 9);
        x.car(0, 0);
        x.wheel(0);
        x.see(0, 0, 0, 0);
        x.pushed(1);
        x.way(0, 0, true, 0);
        Checks.order(x, "line 0 at 0 with 1");
        Checks.order(x, "x");
        x.feed(0, 0, 0, 0, 0);
        promise1NothingIsThere();
        promise1FirstNumbers();
    }

    private static void promise2Places() {
        GaugeWeekend x = t.fresh("promise 2: two unlike PLACES, 0 .. 15");
        int told = 0;
        for (int place = 1; place <= 15; place++) {
            t.dueTaken(x, "line(0, " + place + ")", x.line(0, place, 1, 1, true), told++);
        }
        for (int place = 0; place <= 14; place++) {
            t.dueTaken(x, "line(15, " + place + ")", x.line(15, place, 1, 1, true), told++);
        }
        x = t.fresh("promise 2: two unlike PLACES, 0 .. 15");
        int[] wrong = {LEAST, LEAST + 1, -16, -2, -1, 16, 17, 30, 256, 65536, MOST - 1, MOST};
        for (int place : wrong) {
            t.dueRefused(x, "line(" + place + ", 0)", x.line(place, 0, 1, 1, true), BAD_NUMBER);
            t.dueRefused(x, "line(0, " + place + ")", x.line(0, place, 1, 1, true), BAD_NUMBER);
            t.dueRefused(x, "line of one wrong place", x.line(place, place, 1, 1, true), BAD_NUMBER);
        }
        for (int place = 0; place <= 15; place++) {
            t.dueRefused(x, "line of one place", x.line(place, place, 1, 1, true), BAD_NUMBER);
        }
        t.due("count", x.count(0), 0);
        t.dueTaken(x, "the first is 0 all the same", x.line(15, 0, 1, 1, true), 0);
        t.due("both ends are kept", x.way(0, 0, false, 15), 1);
    }

    private static void promise2Miles() {
        GaugeWeekend x = t.fresh("promise 2: MILES (1 .. 200)");
        int[] wrong = {LEAST, -200, -1, 0, 201, 202, 256 + 1, 65536 + 1, MOST};
        for (int miles : wrong) {
            t.dueRefused(x, "line of " + miles, x.line(0, 1, miles, 1, true), BAD_NUMBER);
        }
        t.dueTaken(x, "line of 1", x.line(0, 1, 1, 1, true), 0);
        t.dueTaken(x, "line of 200", x.line(0, 1, 200, 1, true), 1);
        t.dueTaken(x, "line of 199", x.line(0, 1, 199, 1, true), 2);
        x.rates(1, 1);
        Checks.order(x, "line 0 at 0 with 1; line 1 at 0 with 1; line 2 at 0 with 1");
        t.due("1 mile", x.of(0, 1), 1);
        t.due("200 miles", x.of(1, 1), 200);
        t.due("199 miles", x.of(2, 1), 199);
    }

    private static void promise2Hours() {
        GaugeWeekend x = t.fresh("promise 2: HOURS that a train takes (1 .. 12)");
        int[] wrong = {LEAST, -12, -1, 0, 13, 14, 256 + 1, 65536 + 1, MOST};
        for (int hours : wrong) {
            t.dueRefused(x, "line of " + hours, x.line(0, 1, 1, hours, true), BAD_NUMBER);
        }
        t.dueTaken(x, "line of 1", x.line(0, 1, 1, 1, true), 0);
        t.dueTaken(x, "line of 12", x.line(1, 2, 1, 12, true), 1);
        t.due("1 hour", x.way(0, 0, false, 1), 1);
        t.due("12 hours", x.way(1, 0, false, 2), 12);
    }

    private static void promise2Spikes() {
        GaugeWeekend x = t.fresh("promise 2: spikes SET ahead or not");
        x.line(0, 1, 60, 1, true);
        x.line(0, 1, 60, 1, false);
        x.line(0, 1, 60, 1, true);
        x.rates(20, 1);
        Checks.order(x, "line 0 at 0 with 1; line 1 at 0 with 1; line 2 at 0 with 1");
        t.due("set", x.of(0, 1), 3);
        t.due("not set", x.of(1, 1), 60);
        t.due("set", x.of(2, 1), 3);
    }

    private static void promise2ThirtyLines() {
        GaugeWeekend x = t.fresh("promise 2: LINES 0 .. 29 (30 at most), -1 ahead of -5");
        for (int i = 0; i < 29; i++) {
            t.dueTaken(x, "line", x.line(i % 14, 14, 1, 1, true), i);
        }
        t.due("count", x.count(0), 29);
        t.due("line 29 is not there yet", x.is(29, 0), NONE);
        t.dueRefused(x, "wrong with room for one", x.line(0, 1, 1, 13, true), BAD_NUMBER);
        t.dueTaken(x, "the last that has room", x.line(14, 15, 1, 1, true), 29);
        t.dueRefused(x, "the first that has none", x.line(0, 1, 1, 1, true), Checks.NO_ROOM);
        t.dueRefused(x, "place", x.line(16, 1, 1, 1, true), BAD_NUMBER);
        t.dueRefused(x, "place", x.line(0, -1, 1, 1, true), BAD_NUMBER);
        t.dueRefused(x, "places", x.line(3, 3, 1, 1, true), BAD_NUMBER);
        t.dueRefused(x, "miles", x.line(0, 1, 0, 1, true), BAD_NUMBER);
        t.dueRefused(x, "hours", x.line(0, 1, 1, 13, true), BAD_NUMBER);
        t.dueRefused(x, "no room still", x.line(0, 1, 1, 1, false), Checks.NO_ROOM);
        t.due("count", x.count(0), 30);
        t.due("line 29 stays", x.way(14, 0, false, 15), 1);
        t.dueSteps(x, 29);
        t.due("no line 30", x.is(30, 0), NONE);
    }

    private static void promise2RefusedChangesNothing() {
        GaugeWeekend x = t.chain("promise 2: a refused call changes nothing", 1, 5);
        x.line(16, 1, 200, 12, false);
        x.line(0, 1, 201, 12, false);
        x.line(0, 1, 200, 13, false);
        x.line(2, 2, 200, 12, false);
        t.due("count", x.count(0), 1);
        t.due("way", x.way(0, 0, false, 1), 5);
        t.due("way", x.way(0, 0, false, 2), Checks.NO_WAY);
        Checks.order(x, "line 0 at 0 with 1");
        t.due("miles", x.of(0, 1), 3);
        t.dueTaken(x, "next", x.line(1, 2, 4, 3, true), 1);
        t.due("next has no order", x.of(1, 0), NONE);
        t.due("next is old", x.way(1, 0, false, 2), 3);
    }

    private static void promise3Rates() {
        GaugeWeekend x = t.fresh("promise 3: RATES (1 .. 20 each)");
        for (int rate = 1; rate <= 20; rate++) {
            t.dueTaken(x, "rates", x.rates(rate, 21 - rate), 0);
        }
        int[] wrong = {LEAST, -20, -1, 0, 21, 22, 256 + 1, 65536 + 1, MOST};
        for (int rate : wrong) {
            t.dueRefused(x, "rates(" + rate + ", 1)", x.rates(rate, 1), BAD_NUMBER);
            t.dueRefused(x, "rates(1, " + rate + ")", x.rates(1, rate), BAD_NUMBER);
            t.dueRefused(x, "rates both " + rate, x.rates(rate, rate), BAD_NUMBER);
        }
    }

    private static void promise3RefusedChangesNeither() {
        GaugeWeekend x = t.fresh("promise 3: a refused call changes neither");
        x.line(0, 1, 100, 1, true);
        x.line(0, 1, 100, 1, false);
        Checks.order(x, "line 0 at 0 with 1; line 1 at 0 with 1");
        int[][] wrong = {{0, 20}, {20, 0}, {21, 20}, {20, 21}, {-1, 20}, {20, -1}, {LEAST, 20}, {20, MOST}};
        for (int[] w : wrong) {
            x.rates(w[0], w[1]);
            t.due("set", x.of(0, 1), 25);
            t.due("others", x.of(1, 1), 50);
        }
        x.rates(20, 1);
        t.due("set", x.of(0, 1), 5);
        t.due("others", x.of(1, 1), 100);
        x.rates(1, 20);
        t.due("set", x.of(0, 1), 100);
        t.due("others", x.of(1, 1), 5);
    }

    private static void promise3RatesOfOrdersInForce() {
        GaugeWeekend x = t.fresh("promise 3: LINES with an ORDER are DONE by the RATES that hold");
        x.line(0, 1, 20, 2, true);
        x.line(1, 2, 20, 2, false);
        x.line(2, 3, 20, 2, true);
        x.car(0, 0);
        Checks.order(x, "line 0 at 4 with 1; line 1 after 0 and 1 with 1; line 2 after 1 with 1");
        t.due("2 begins", x.of(2, 0), 20);
        t.due("car", x.comes(0, 3), 6);
        t.due("way of new ones", x.way(0, 0, true, 3), 27);
        x.rates(20, 20);
        t.due("0 done", x.of(0, 1), 5);
        t.due("1 begins", x.of(1, 0), 6);
        t.due("1 done", x.of(1, 1), 7);
        t.due("2 begins", x.of(2, 0), 7);
        t.due("2 done", x.of(2, 1), 8);
        t.due("all done", x.count(6), 8);
        t.due("shut", x.is(2, 7), 1);
        t.due("busy", x.busy(7), 1);
        t.due("car", x.comes(0, 3), 6);
        t.due("way of new ones", x.way(0, 0, true, 3), 11);
        x.rates(1, 1);
        t.due("all done", x.count(6), 4 + 20 + 1 + 20 + 20);
        t.due("old", x.is(2, 44), 0);
        t.due("shut", x.is(2, 45), 1);
    }

    private static void promise4Gangs() {
        GaugeWeekend x = t.fresh("promise 4: GANGS (0 .. 99)");
        t.dueTaken(x, "the smallest", x.gangs(0), 20);
        t.dueTaken(x, "the largest", x.gangs(99), 0);
        int[] wrong = {LEAST, -99, -1, 100, 101, 256, 65536, MOST};
        for (int many : wrong) {
            t.dueRefused(x, "gangs(" + many + ")", x.gangs(many), BAD_NUMBER);
        }
        t.dueTaken(x, "they stay", x.gangs(1), 99);
        t.dueTaken(x, "one", x.gangs(1), 1);
    }

    private static void promise5Transfer() {
        GaugeWeekend x = t.chain("promise 5: TRANSFER (0 .. 12)", 1, 1);
        t.due("3 at first", x.way(0, 0, true, 1), 4);
        t.dueTaken(x, "the smallest", x.transfer(0), 3);
        t.due("none", x.way(0, 0, true, 1), 1);
        t.dueTaken(x, "the largest", x.transfer(12), 0);
        t.due("twelve", x.way(0, 0, true, 1), 13);
        int[] wrong = {LEAST, -12, -1, 13, 14, 256, 65536, MOST};
        for (int hours : wrong) {
            t.dueRefused(x, "transfer(" + hours + ")", x.transfer(hours), BAD_NUMBER);
            t.due("it stays", x.way(0, 0, true, 1), 13);
        }
        t.dueTaken(x, "it stays", x.transfer(12), 12);
    }

    private static void promise10WhichLineAndWhat() {
        GaugeWeekend x = t.alikeLines("promise 10: LINES that there are, what 0, 1, 2", 29);
        Checks.order(x, "line 0 at 7 with 3; line 28 at 8 with 4");
        t.due("of the first", x.of(0, 0), 7);
        t.due("of the first", x.of(0, 1), 8);
        t.due("of the first", x.of(0, 2), 3);
        t.due("of the last", x.of(28, 0), 8);
        t.due("of the last", x.of(28, 1), 9);
        t.due("of the last", x.of(28, 2), 4);
        int[] lines = {LEAST, -28, -1, 29, 30, 31, 256, 65536, MOST};
        for (int line : lines) {
            for (int what = 0; what <= 2; what++) {
                t.due("of(" + line + ", " + what + ")", x.of(line, what), NONE);
            }
        }
        int[] whats = {LEAST, -2, -1, 3, 4, 256, 65536, MOST};
        for (int what : whats) {
            t.due("of(0, " + what + ")", x.of(0, what), NONE);
            t.due("of(1, " + what + ")", x.of(1, what), NONE);
        }
        x.line(0, 1, 1, 1, true);
        Checks.order(x, "line 29 at 6 with 5");
        t.due("of line 29", x.of(29, 0), 6);
        t.due("of line 29", x.of(29, 2), 5);
        t.due("of line 30", x.of(30, 2), NONE);
    }

    private static void promise10WithoutOrder() {
        GaugeWeekend x = t.alikeLines("promise 10: 0 gangs without, NONE BEGINS, DONE without an ORDER", 3);
        t.due("begins", x.of(1, 0), NONE);
        t.due("done", x.of(1, 1), NONE);
        t.due("gangs", x.of(1, 2), 0);
        Checks.order(x, "line 1 at 0 with 99");
        t.due("begins", x.of(1, 0), 0);
        t.due("done", x.of(1, 1), 1);
        t.due("gangs", x.of(1, 2), 99);
        t.due("the one ahead", x.of(0, 0), NONE);
        t.due("the one behind", x.of(2, 1), NONE);
        t.due("the one behind", x.of(2, 2), 0);
        Checks.order(x, " ");
        t.due("begins", x.of(1, 0), NONE);
        t.due("done", x.of(1, 1), NONE);
        t.due("gangs", x.of(1, 2), 0);
    }

    private static void promise10Hours() {
        GaugeWeekend x = t.fresh("promise 10: BEGINS and DONE, from HOUR 0 to behind HOUR 120");
        for (int i = 0; i < 3; i++) {
            x.line(0, 1, 200, 1, false);
        }
        x.rates(1, 1);
        Checks.order(x, "line 2 at 100 with 1; line 0 after 2 and 99 with 1; line 1 at 0 with 99");
        t.due("the latest hour told", x.of(2, 0), 100);
        t.due("done behind 120", x.of(2, 1), 300);
        t.due("begins behind 120", x.of(0, 0), 399);
        t.due("done behind 120", x.of(0, 1), 599);
        t.due("the soonest hour told", x.of(1, 0), 0);
        t.due("done", x.of(1, 1), 3);
    }

    /** DONE for gangs and rates all round the places where the hours go up by one. */
    private static void promise10RoundedUp() {
        GaugeWeekend x = t.fresh("promise 10: MILES / (gangs times RATE), rounded up");
        int[] miles = {1, 2, 3, 4, 5, 7, 8, 9, 98, 99, 100, 101, 197, 198, 199, 200};
        for (int m : miles) {
            x.line(0, 1, m, 1, true);
        }
        int[][] gangsAndRates = {{1, 1}, {1, 4}, {2, 2}, {99, 1}, {99, 20}, {50, 2}, {10, 20}, {9, 11}};
        for (int[] g : gangsAndRates) {
            x.rates(g[1], 1);
            StringBuilder text = new StringBuilder();
            for (int line = 0; line < miles.length; line++) {
                text.append(line == 0 ? "" : ";").append("line ").append(line).append(" at 5 with ").append(g[0]);
            }
            t.due("orders", Checks.order(x, text.toString()), miles.length);
            for (int line = 0; line < miles.length; line++) {
                int whole = miles[line] / (g[0] * g[1]);
                int hours = whole * g[0] * g[1] == miles[line] ? whole : whole + 1;
                t.due(miles[line] + " miles, " + g[0] + " gangs, rate " + g[1], x.of(line, 1), 5 + hours);
            }
        }
    }

    private static void promise11WhichLineAndHour() {
        GaugeWeekend x = t.alikeLines("promise 11: LINES that there are, HOURS 0 .. 120", 30);
        int[] lines = {LEAST, -29, -1, 30, 31, 256, 65536, MOST};
        for (int line : lines) {
            t.due("is(" + line + ", 0)", x.is(line, 0), NONE);
            t.due("is(" + line + ", 120)", x.is(line, 120), NONE);
        }
        int[] hours = {LEAST, -120, -1, 121, 122, 256, 65536, MOST};
        for (int hour : hours) {
            t.due("is(0, " + hour + ")", x.is(0, hour), NONE);
            t.due("is(29, " + hour + ")", x.is(29, hour), NONE);
            t.due("neither", x.is(30, hour), NONE);
        }
        t.due("the first", x.is(0, 0), 0);
        t.due("the last", x.is(29, 120), 0);
    }

    private static void promise11FirstAndLastHourOfEach() {
        GaugeWeekend x = t.chain("promise 11: OLD ahead of BEGINS, SHUT from it on, NEW from DONE on", 2, 1);
        Checks.order(x, "line 0 at 40 with 1");
        for (int hour = 0; hour <= 120; hour++) {
            t.due("is(0, " + hour + ")", x.is(0, hour), hour < 40 ? 0 : hour < 43 ? 1 : 2);
            t.due("is(1, " + hour + "), without an ORDER", x.is(1, hour), 0);
        }
    }

    private static void promise11AtBothEndsOfTheHours() {
        GaugeWeekend x = t.fresh("promise 11: BEGINS in HOUR 0, DONE about HOUR 120, BEGINS behind it");
        x.line(0, 1, 1, 1, true);
        x.line(0, 1, 80, 1, true);
        x.line(0, 1, 84, 1, true);
        x.line(0, 1, 1, 1, true);
        x.line(0, 1, 1, 1, true);
        Checks.order(x, "line 0 at 0 with 1; line 1 at 100 with 1; line 2 at 100 with 1; line 3 after 1 with 1; line 4 after 2 with 1");
        t.due("shut in the first hour", x.is(0, 0), 1);
        t.due("new in the next", x.is(0, 1), 2);
        t.due("done in 120: shut ahead", x.is(1, 119), 1);
        t.due("done in 120: new", x.is(1, 120), 2);
        t.due("done in 121: shut", x.is(2, 120), 1);
        t.due("begins in 120: old ahead", x.is(3, 119), 0);
        t.due("begins in 120: shut", x.is(3, 120), 1);
        t.due("begins in 121: old", x.is(4, 120), 0);
        t.due("busy in 119", x.busy(119), 2);
        t.due("busy in 120", x.busy(120), 2);
    }

    private static void promise12Hours() {
        GaugeWeekend x = t.chain("promise 12: HOURS 0 .. 120", 1, 1);
        x.rates(1, 1);
        Checks.order(x, "line 0 at 0 with 5");
        int[] hours = {LEAST, -120, -1, 121, 122, 256, 65536, MOST};
        for (int hour : hours) {
            t.due("busy(" + hour + ")", x.busy(hour), NONE);
        }
        t.due("busy(0)", x.busy(0), 5);
        t.due("busy(1)", x.busy(1), 5);
        t.due("busy(2)", x.busy(2), 0);
        t.due("busy(120)", x.busy(120), 0);
        Checks.order(x, "line 0 at 100 with 1");
        t.due("busy(99)", x.busy(99), 0);
        t.due("busy(100)", x.busy(100), 1);
        t.due("busy(109)", x.busy(109), 1);
        t.due("busy(110)", x.busy(110), 0);
    }

    private static void promise12AllGangs() {
        GaugeWeekend x = t.alikeLines("promise 12: gangs of all LINES that are SHUT in an HOUR", 27);
        StringBuilder text = new StringBuilder();
        for (int line = 0; line < 27; line++) {
            text.append(line == 0 ? "" : ";").append("line").append(line).append("at3with").append(line < 6 ? 99 : 9);
        }
        t.due("bytes", text.length(), 400);
        t.dueOrders(x, text.toString(), 27);
        t.due("busy(2)", x.busy(2), 0);
        t.due("busy(3)", x.busy(3), 6 * 99 + 21 * 9);
        t.due("busy(4)", x.busy(4), 0);
        x.gangs(99);
        t.due("lack", x.lack(), 3);
    }

    private static void promise13FirstAndLastHour() {
        GaugeWeekend x = t.alikeLines("promise 13: LACK, the first HOUR 0 .. 120", 2);
        x.gangs(1);
        Checks.order(x, "line 0 at 0 with 2; line 1 at 100 with 2");
        t.due("in the first hour", x.lack(), 0);
        Checks.order(x, "line 1 at 100 with 3; line 0 at 1 with 2");
        t.due("the first of two, told last", x.lack(), 1);
        x.gangs(2);
        t.due("the second alone", x.lack(), 100);
        x = t.fresh("promise 13: LACK, the first HOUR 0 .. 120");
        x.line(0, 1, 80, 1, true);
        x.line(0, 1, 1, 1, true);
        x.gangs(1);
        Checks.order(x, "line 0 at 100 with 1; line 1 after 0 with 2");
        t.due("in the last hour", x.lack(), 120);
        Checks.order(x, "line 0 at 100 with 1; line 1 after 0 and 1 with 2");
        t.due("not behind it", x.lack(), NONE);
    }

    private static void promise13AsManyAsThereAre() {
        GaugeWeekend x = t.alikeLines("promise 13: more are BUSY than there are GANGS", 3);
        Checks.order(x, "line 0 at 9 with 99; line 1 at 8 with 1; line 2 at 8 with 1");
        x.gangs(99);
        t.due("as many as there are", x.lack(), NONE);
        x.gangs(98);
        t.due("one more", x.lack(), 9);
        x.gangs(2);
        t.due("two together are as many", x.lack(), 9);
        x.gangs(1);
        t.due("two together are more", x.lack(), 8);
        x.gangs(0);
        t.due("none at all", x.lack(), 8);
        x.gangs(-1);
        x.gangs(100);
        t.due("refused gangs change nothing", x.lack(), 8);
        Checks.order(x, "");
        t.due("nothing to do, none at all", x.lack(), NONE);
    }
}
