/** For each promise of the document: ordinary inputs, the edges that it names, and wrong inputs. */
public final class PromisesTest {
    private static final int LEAST = Checks.LEAST;
    private static final int MOST = Checks.MOST;
    private static final int NONE = Checks.NONE;
    private static final Checks t = new Checks();

    public static void main(String[] args) {
        newObject();
        line();
        rates();
        gangs();
        transfer();
        feedAndEnd();
        ordersTaken();
        ordersRefused();
        ordersStayWhenRefused();
        faultOf();
        ofLine();
        doneRoundsUp();
        afterChains();
        isLine();
        busyAndLack();
        wayOverOld();
        wayOverNew();
        wayWithTransfers();
        wayOfFewestSteps();
        wayFirstAsRow();
        wayByLastHour();
        wayOfMostSteps();
        wayRefused();
        step();
        shop();
        car();
        comes();
        comesOverManyLines();
        pushedMovesOn();
        pushedInOrder();
        pushedManyHours();
        has();
        wheel();
        see();
        under();
        count();
        status();
        t.close();
    }

    private static void newObject() {
        GaugeWeekend x = t.fresh("promise 1");
        for (int what = 0; what <= 6; what++) {
            t.due("count(" + what + ")", x.count(what), 0);
        }
        t.due("status", x.status(), 0);
        t.due("fault", x.fault(), NONE);
        t.due("lack", x.lack(), NONE);
        t.due("busy", x.busy(0), 0);
        t.due("is", x.is(0, 0), NONE);
        t.due("of", x.of(0, 2), NONE);
        t.due("step(-1)", x.step(-1), NONE);
        t.due("step(0)", x.step(0), NONE);
        t.due("has", x.has(0), NONE);
        t.due("comes", x.comes(0, 0), NONE);
        t.due("under", x.under(0, 0, 0), NONE);
        t.due("pushed", x.pushed(120), 0);
        t.due("way to itself", x.way(3, 7, true, 3), 7);
        t.due("way", x.way(0, 0, false, 1), -6);
        t.due("gangs at first", x.gangs(1), 20);
        t.due("transfer at first", x.transfer(1), 3);
        t.due("pushers at first", x.shop(15, 1), 0);
        t.due("NONE", GaugeWeekend.NONE, -1);
    }

    private static void line() {
        GaugeWeekend x = t.fresh("promise 2");
        t.due("first", x.line(0, 15, 1, 1, true), 0);
        t.due("second", x.line(15, 0, 200, 12, false), 1);
        int[][] wrong = {{-1, 0, 1, 1}, {16, 0, 1, 1}, {0, -1, 1, 1}, {0, 16, 1, 1}, {4, 4, 1, 1},
            {0, 1, 0, 1}, {0, 1, 201, 1}, {0, 1, 1, 0}, {0, 1, 1, 13}, {LEAST, MOST, 1, 1},
            {0, 1, LEAST, 1}, {0, 1, 1, MOST}};
        for (int[] w : wrong) {
            t.due("wrong line", x.line(w[0], w[1], w[2], w[3], true), -1);
        }
        t.due("count", x.count(0), 2);
        for (int i = 2; i < 30; i++) {
            t.due("line", x.line(1, 2, 3, 4, true), i);
        }
        t.due("no room", x.line(1, 2, 3, 4, true), -5);
        t.due("wrong ahead of no room", x.line(1, 1, 3, 4, true), -1);
        t.due("count", x.count(0), 30);
    }

    private static void rates() {
        GaugeWeekend x = t.fresh("promise 3");
        x.line(0, 1, 41, 1, true);
        x.line(0, 1, 41, 1, false);
        Checks.order(x, "line 0 at 0 with 1; line 1 at 0 with 1");
        t.due("4 at first", x.of(0, 1), 11);
        t.due("2 at first", x.of(1, 1), 21);
        t.due("rates", x.rates(20, 1), 0);
        t.due("set", x.of(0, 1), 3);
        t.due("other", x.of(1, 1), 41);
        int[][] wrong = {{0, 1}, {21, 1}, {1, 0}, {1, 21}, {LEAST, 1}, {1, MOST}};
        for (int[] w : wrong) {
            t.due("wrong rates", x.rates(w[0], w[1]), -1);
        }
        t.due("set stays", x.of(0, 1), 3);
        t.due("other stays", x.of(1, 1), 41);
        t.due("rates", x.rates(1, 20), 0);
        t.due("set", x.of(0, 1), 41);
        t.due("other", x.of(1, 1), 3);
    }

    private static void gangs() {
        GaugeWeekend x = t.fresh("promise 4");
        t.due("gangs", x.gangs(0), 20);
        t.due("gangs", x.gangs(99), 0);
        t.due("gangs", x.gangs(100), -1);
        t.due("gangs", x.gangs(-1), -1);
        t.due("gangs", x.gangs(LEAST), -1);
        t.due("gangs stay", x.gangs(5), 99);
    }

    private static void transfer() {
        GaugeWeekend x = t.fresh("promise 5");
        t.due("transfer", x.transfer(0), 3);
        t.due("transfer", x.transfer(12), 0);
        t.due("transfer", x.transfer(13), -1);
        t.due("transfer", x.transfer(-1), -1);
        t.due("transfer", x.transfer(MOST), -1);
        t.due("transfer stays", x.transfer(1), 12);
    }

    private static void feedAndEnd() {
        GaugeWeekend x = t.fresh("promises 6 and 7");
        t.due("end of none", x.end(0), 0);
        t.due("end of none", x.end(1), NONE);
        for (int i = 1; i <= 20; i++) {
            t.due("feed", x.feed(0x20202020, 0x20202020, 0x20202020, 0x20202020, 0x20202020), 20 * i);
        }
        t.due("feed above 400", x.feed(1, 2, 3, 4, 5), NONE);
        t.due("count", x.count(5), 400);
        t.due("end", x.end(-1), NONE);
        t.due("end", x.end(LEAST), NONE);
        t.due("end", x.end(401), NONE);
        t.due("end", x.end(400), 400);
        t.due("end", x.end(381), 381);
        t.due("feed above 400 by one", x.feed(1, 2, 3, 4, 5), NONE);
        t.due("end", x.end(382), NONE);
        t.due("end", x.end(380), 380);
        t.due("feed", x.feed(-1, LEAST, MOST, 0, 1), 400);
        t.due("orders", x.orders(), -6);
        t.due("fault at the first of the last feed", x.fault(), 380);
        t.due("count", x.count(5), 0);
        x.line(0, 1, 1, 1, true);
        t.due("bytes in order", x.feed(0x6c696e65, 0x20302061, 0x74203720, 0x77697468, 0x20392020), 20);
        t.due("orders", x.orders(), 1);
        t.due("begins", x.of(0, 0), 7);
        t.due("gangs", x.of(0, 2), 9);
        t.due("status is not feed's", x.status(), 0);
    }

    private static void ordersTaken() {
        GaugeWeekend x = t.chain("promise 8", 12, 1);
        t.due("empty", Checks.order(x, ""), 0);
        t.due("blanks", Checks.order(x, "     "), 0);
        t.due("one", Checks.order(x, "line 0 at 5 with 2"), 1);
        t.due("tape is empty", x.count(5), 0);
        t.due("without blanks", Checks.order(x, "line11at5with2;line2after11and3with1"), 2);
        t.due("begins", x.of(2, 0), 5 + 2 + 3);
        t.due("others are old again", x.of(0, 0), NONE);
        t.due("many blanks", Checks.order(x, "   line   3   at   0   with   99   ;   line 4 at 100 with 1   "), 2);
        t.due("gangs", x.of(3, 2), 99);
        t.due("begins", x.of(4, 0), 100);
        t.due("leading noughts", Checks.order(x, "line 0007 at 000000000000000100 with 00099"), 1);
        t.due("begins", x.of(7, 0), 100);
        t.due("and 0", Checks.order(x, "line 0 at 0 with 1;line 1 after 0 and 0 with 1"), 2);
        t.due("begins", x.of(1, 0), x.of(0, 1));
        t.due("and 99", Checks.order(x, "line 0 at 0 with 1;line 1 after 0 and 99 with 1"), 2);
        t.due("begins", x.of(1, 0), x.of(0, 1) + 99);
        t.due("blanks alone: none", Checks.order(x, " "), 0);
        t.due("count", x.count(1), 0);
        t.due("done", x.count(6), 0);
        StringBuilder all = new StringBuilder();
        for (int i = 0; i < 12; i++) {
            all.append(i == 0 ? "" : ";").append("line ").append(11 - i).append(" at ").append(i).append(" with 1");
        }
        t.due("all lines", Checks.order(x, all.toString()), 12);
    }

    private static void ordersRefused() {
        GaugeWeekend x = t.chain("promises 8 and 9", 3, 1);
        t.dueFault(x, "lines 0 at 1 with 1", 0);
        t.dueFault(x, "  lin 0 at 1 with 1", 2);
        t.dueFault(x, "Line 0 at 1 with 1", 0);
        t.dueFault(x, "liNe 0 at 1 with 1", 0);
        t.dueFault(x, ";", 0);
        t.dueFault(x, "0", 0);
        t.dueFault(x, "line", 4);
        t.dueFault(x, "line    ", 8);
        t.dueFault(x, "line -1 at 1 with 1", 5);
        t.dueFault(x, "line 3 at 1 with 1", 5);
        t.dueFault(x, "line 99999999999999999999 at 1 with 1", 5);
        t.dueFault(x, "line 4294967296 at 1 with 1", 5);
        t.dueFault(x, "line at 1 with 1", 5);
        t.dueFault(x, "line 0", 6);
        t.dueFault(x, "line 0 with 1", 7);
        t.dueFault(x, "line 0 at", 9);
        t.dueFault(x, "line 0 at with 1", 10);
        t.dueFault(x, "line 0 at 101 with 1", 10);
        t.dueFault(x, "line 0 at 4294967297 with 1", 10);
        t.dueFault(x, "line 0 at 1", 11);
        t.dueFault(x, "line 0 at 1 and 1 with 1", 12);
        t.dueFault(x, "line 0 at 1 with", 16);
        t.dueFault(x, "line 0 at 1 with 0", 17);
        t.dueFault(x, "line 0 at 1 with 100", 17);
        t.dueFault(x, "line 0 at 1 with x", 17);
        t.dueFault(x, "line 0 at 1 with 1;", 19);
        t.dueFault(x, "line 0 at 1 with 1 ;  ", 22);
        t.dueFault(x, "line 0 at 1 with 1 line 1 at 1 with 1", 19);
        t.dueFault(x, "line 0 at 1 with 1;;line 1 at 1 with 1", 19);
        t.dueFault(x, "line 0 at 1 with 1,line 1 at 1 with 1", 18);
        t.dueFault(x, "line 0 at 1 with 1x", 18);
        t.dueFault(x, "line 0 at 1 with 1 1", 19);
        t.dueFault(x, "line 0 at 1 with 1;line 0 at 1 with 1", 24);
        t.dueFault(x, "line 0 after 0 with 1", 13);
        t.dueFault(x, "line 0 after 1 with 1; line 1 at 1 with 1", 13);
        t.dueFault(x, "line 0 after 3 with 1", 13);
        t.dueFault(x, "line 0 after 99 with 1", 13);
        t.dueFault(x, "line 0 after and 1 with 1", 13);
        t.dueFault(x, "line 0 at 1 with 1;line 1 after 0", 33);
        t.dueFault(x, "line 0 at 1 with 1;line 1 after 0 and", 37);
        t.dueFault(x, "line 0 at 1 with 1;line 1 after 0 and with 1", 38);
        t.dueFault(x, "line 0 at 1 with 1;line 1 after 0 and 100 with 1", 38);
        t.dueFault(x, "line 0 at 1 with 1;line 1 after 0 and 1 and 1 with 1", 40);
        t.dueFault(x, "line 0 at 1 with 1;line 1 after 0 after 0 with 1", 34);
        t.dueFault(x, "line\t0 at 1 with 1", 4);
        t.dueFault(x, "line 0 at 1 with 1\0", 18);
        t.dueFault(x, "line 0 at 1 with 1 " + (char) 255, 19);
        t.dueFault(x, "line 0 at 1 " + (char) 233 + "with 1", 12);
        t.dueFault(x, "lineat", 0);
        t.dueFault(x, "linez 0 at 1 with 1", 0);
        t.dueFault(x, "aline 0 at 1 with 1", 0);
        t.dueFault(x, "at 1 with 1", 0);
        t.dueFault(x, "line 0 at 1 with 1;at 1 with 1", 19);
        t.dueFault(x, "line 0 at 1 with 1;line 1 after with 1", 32);
        t.dueFault(x, "line 0 1 with 1", 7);
        t.dueFault(x, "line 0 and 1 with 1", 7);
        t.dueFault(x, "line 0at1wit", 9);
    }

    private static void ordersStayWhenRefused() {
        GaugeWeekend x = t.chain("promise 8, refused", 3, 1);
        Checks.order(x, "line 0 at 5 with 2; line 1 after 0 with 3");
        t.dueFault(x, "line 1 at 9 with 1; line 2 at 8 with 1 x", 39);
        t.due("orders stay", x.count(1), 2);
        t.due("begins", x.of(0, 0), 5);
        t.due("done", x.of(0, 1), 7);
        t.due("begins", x.of(1, 0), 7);
        t.due("gangs", x.of(1, 2), 3);
        t.due("line 2 has none", x.of(2, 0), NONE);
        t.due("line of the next feed", Checks.order(x, "line 2 at 1 with 1"), 1);
        t.due("the older ones are gone", x.of(0, 0), NONE);
        t.due("and their gangs", x.of(1, 2), 0);
    }

    private static void faultOf() {
        GaugeWeekend x = t.chain("promise 9", 2, 1);
        t.due("ahead of any", x.fault(), NONE);
        Checks.order(x, "line 0 at x");
        t.due("fault", x.fault(), 10);
        x.way(0, 0, false, 99);
        t.due("fault stays", x.fault(), 10);
        Checks.order(x, "line 0 at 1 with 1");
        t.due("without", x.fault(), NONE);
    }

    private static void ofLine() {
        GaugeWeekend x = t.chain("promise 10", 2, 1);
        Checks.order(x, "line 1 at 9 with 2");
        t.due("begins", x.of(1, 0), 9);
        t.due("done", x.of(1, 1), 11);
        t.due("gangs", x.of(1, 2), 2);
        t.due("no order", x.of(0, 0), NONE);
        t.due("no order", x.of(0, 1), NONE);
        t.due("no order", x.of(0, 2), 0);
        int[][] wrong = {{-1, 0}, {2, 0}, {2, 2}, {30, 2}, {1, -1}, {1, 3}, {LEAST, 0}, {MOST, 2}, {1, MOST}};
        for (int[] w : wrong) {
            t.due("wrong of", x.of(w[0], w[1]), NONE);
        }
        x.line(3, 4, 5, 6, true);
        t.due("a line told later has none", x.of(2, 2), 0);
    }

    private static void doneRoundsUp() {
        GaugeWeekend x = t.fresh("promise 10, rounded up");
        x.line(0, 1, 24, 1, true);
        x.line(0, 1, 25, 1, true);
        x.line(0, 1, 1, 1, false);
        x.line(0, 1, 200, 1, false);
        Checks.order(x, "line 0 at 0 with 3;line 1 at 0 with 3;line 2 at 0 with 99;line 3 at 100 with 1");
        t.due("even", x.of(0, 1), 2);
        t.due("one above", x.of(1, 1), 3);
        t.due("at least an hour", x.of(2, 1), 1);
        t.due("behind the last hour", x.of(3, 1), 200);
        t.due("all done", x.count(6), 200);
        t.due("is", x.is(3, 120), 1);
        x.rates(1, 1);
        t.due("all done", x.count(6), 300);
    }

    private static void afterChains() {
        GaugeWeekend x = t.chain("promise 8, after", 4, 1);
        Checks.order(x, "line 3 at 2 with 1;line 1 after 3 and 4 with 5;line 0 after 1 with 2;line 2 after 3 with 1");
        t.due("3 begins", x.of(3, 0), 2);
        t.due("3 done", x.of(3, 1), 5);
        t.due("1 begins", x.of(1, 0), 9);
        t.due("1 done", x.of(1, 1), 10);
        t.due("0 begins", x.of(0, 0), 10);
        t.due("0 done", x.of(0, 1), 12);
        t.due("2 begins", x.of(2, 0), 5);
        t.due("2 done", x.of(2, 1), 8);
        t.due("all done", x.count(6), 12);
        x.rates(10, 1);
        t.due("3 done", x.of(3, 1), 3);
        t.due("1 begins", x.of(1, 0), 7);
        t.due("0 done", x.of(0, 1), 9);
    }

    private static void isLine() {
        GaugeWeekend x = t.chain("promise 11", 2, 1);
        Checks.order(x, "line 0 at 10 with 1");
        t.due("old", x.is(0, 0), 0);
        t.due("old", x.is(0, 9), 0);
        t.due("shut", x.is(0, 10), 1);
        t.due("shut", x.is(0, 12), 1);
        t.due("new", x.is(0, 13), 2);
        t.due("new", x.is(0, 120), 2);
        t.due("old always", x.is(1, 120), 0);
        int[][] wrong = {{0, -1}, {0, 121}, {-1, 0}, {2, 0}, {LEAST, 0}, {0, MOST}};
        for (int[] w : wrong) {
            t.due("wrong is", x.is(w[0], w[1]), NONE);
        }
    }

    private static void busyAndLack() {
        GaugeWeekend x = t.chain("promises 12 and 13", 3, 1);
        Checks.order(x, "line 0 at 4 with 2;line 1 at 5 with 1;line 2 at 100 with 20");
        t.due("busy", x.busy(3), 0);
        t.due("busy", x.busy(4), 2);
        t.due("busy", x.busy(5), 3);
        t.due("busy", x.busy(6), 1);
        t.due("busy", x.busy(8), 0);
        t.due("busy", x.busy(100), 20);
        t.due("busy", x.busy(-1), NONE);
        t.due("busy", x.busy(121), NONE);
        t.due("busy", x.busy(120), 0);
        t.due("no lack", x.lack(), NONE);
        x.gangs(19);
        t.due("lack", x.lack(), 100);
        x.gangs(3);
        t.due("as many as there are is no lack", x.lack(), 100);
        x.gangs(2);
        t.due("lack", x.lack(), 5);
        x.gangs(0);
        t.due("lack", x.lack(), 4);
        Checks.order(x, "line 0 at 0 with 1");
        t.due("lack in the first hour", x.lack(), 0);
        t.due("busy in the first hour", x.busy(0), 1);
        x.rates(1, 1);
        Checks.order(x, "line 0 at 0 with 1;line 1 after 0 and 99 with 1;line 2 after 1 and 0 with 9");
        x.gangs(1);
        t.due("lack", x.lack(), 119);
        Checks.order(x, "line 0 at 0 with 1;line 1 after 0 and 99 with 1;line 2 after 1 and 1 with 9");
        t.due("lack in the last hour", x.lack(), 120);
        Checks.order(x, "line 0 at 0 with 1;line 1 after 0 and 99 with 1;line 2 after 1 and 2 with 9");
        t.due("not behind it", x.lack(), NONE);
    }

    private static void wayOverOld() {
        GaugeWeekend x = t.chain("promise 14, old", 3, 4);
        t.due("way", x.way(0, 2, false, 3), 14);
        t.dueSteps(x, 0, 1, 2);
        t.due("back", x.way(3, 2, false, 0), 14);
        t.dueSteps(x, 2, 1, 0);
        Checks.order(x, "line 1 at 12 with 9");
        t.due("just there as it is shut", x.way(0, 4, false, 3), 16);
        t.dueSteps(x, 0, 1, 2);
        t.due("too late: over the new one", x.way(0, 5, false, 3), 24);
        t.dueSteps(x, 0, 30, 1, 30, 2);
        t.due("no new train on old lines", x.way(0, 0, true, 1), 7);
        t.dueSteps(x, 30, 0);
    }

    private static void wayOverNew() {
        GaugeWeekend x = t.chain("promise 14, new", 2, 4);
        Checks.order(x, "line 0 at 0 with 1;line 1 at 8 with 1");
        t.due("waits", x.way(0, 0, true, 2), 15);
        t.dueSteps(x, 0, 1);
        t.due("way", x.way(0, 20, true, 2), 28);
        t.due("way", x.way(0, 11, false, 1), 18);
        t.dueSteps(x, 30, 0);
        t.due("old first", x.way(2, 0, false, 0), 11);
        t.dueSteps(x, 1, 30, 0);
    }

    private static void wayWithTransfers() {
        GaugeWeekend x = t.chain("promise 14, transfer", 2, 4);
        Checks.order(x, "line 0 at 0 with 9");
        t.due("way", x.way(0, 1, true, 2), 12);
        t.dueSteps(x, 0, 30, 1);
        x.transfer(0);
        t.due("way", x.way(0, 1, true, 2), 9);
        t.dueSteps(x, 0, 30, 1);
        t.due("two transfers", x.way(0, 1, false, 2), 9);
        t.dueSteps(x, 30, 0, 30, 1);
        x.transfer(12);
        t.due("way", x.way(0, 1, true, 2), 21);
        t.due("there already", x.way(2, 120, true, 2), 120);
        t.dueSteps(x);
    }

    private static void wayOfFewestSteps() {
        GaugeWeekend x = t.fresh("promise 14, fewest steps");
        x.line(0, 1, 4, 1, true);
        x.line(1, 2, 4, 1, true);
        x.line(0, 2, 4, 2, true);
        t.due("alike", x.way(0, 0, false, 2), 2);
        t.dueSteps(x, 2);
        // by 0 and 1 they are in 2 sooner, but line 3 makes them wait
        x.line(2, 3, 80, 1, true);
        x.line(0, 2, 4, 9, true);
        Checks.order(x, "line 3 at 0 with 1;line 0 at 0 with 1;line 1 at 0 with 1;line 4 at 0 with 1");
        t.due("no hurry", x.way(0, 1, true, 3), 21);
        t.dueSteps(x, 4, 3);
    }

    private static void wayFirstAsRow() {
        GaugeWeekend x = t.fresh("promise 14, first as rows");
        x.line(1, 3, 4, 2, true);
        x.line(0, 2, 4, 2, true);
        x.line(2, 3, 4, 2, true);
        x.line(0, 1, 4, 2, true);
        x.line(1, 0, 4, 2, true);
        t.due("alike", x.way(0, 0, false, 3), 4);
        t.dueSteps(x, 1, 2);
        t.due("alike", x.way(3, 0, false, 0), 4);
        t.dueSteps(x, 0, 3);
        x.transfer(0);
        t.due("line ahead of transfer", x.way(0, 0, true, 3), 4);
        t.dueSteps(x, 30, 1, 2);
        Checks.order(x, "line 3 at 0 with 9; line 4 at 0 with 9");
        t.due("line, then transfer", x.way(0, 1, true, 3), 5);
        t.dueSteps(x, 3, 30, 0);
    }

    private static void wayByLastHour() {
        GaugeWeekend x = t.chain("promise 14, hour 120", 2, 12);
        t.due("by 120", x.way(0, 96, false, 2), 120);
        t.due("behind 120", x.way(0, 97, false, 2), -6);
        Checks.order(x, "line 0 at 100 with 1");
        t.due("new by 120", x.way(0, 108, true, 1), 120);
        t.due("behind 120", x.way(0, 109, true, 1), -6);
    }

    private static void wayRefused() {
        GaugeWeekend x = t.chain("promise 14, refused", 2, 1);
        t.due("way", x.way(0, 0, false, 2), 2);
        int[][] wrong = {{-1, 0, 0}, {16, 0, 0}, {0, -1, 0}, {0, 121, 0}, {0, 0, -1}, {0, 0, 16},
            {LEAST, 0, 0}, {0, MOST, 0}, {0, 0, MOST}};
        for (int[] w : wrong) {
            t.due("wrong way", x.way(w[0], w[1], false, w[2]), -1);
            t.due("status", x.status(), -1);
        }
        t.due("none", x.way(0, 0, false, 15), -6);
        t.due("status", x.status(), -6);
        t.dueSteps(x, 0, 1);
        t.due("way", x.way(15, 120, false, 15), 120);
        t.dueSteps(x);
    }

    private static void step() {
        GaugeWeekend x = t.chain("promise 15", 15, 1);
        t.due("ahead of any", x.step(-1), NONE);
        x.way(0, 0, false, 14);
        t.due("how many", x.step(-1), 14);
        t.due("last", x.step(13), 13);
        t.due("behind", x.step(14), NONE);
        t.due("wrong", x.step(-2), NONE);
        t.due("wrong", x.step(LEAST), NONE);
        t.due("wrong", x.step(MOST), NONE);
        Checks.order(x, "line 0 at 0 with 1");
        t.due("the latest stays", x.step(-1), 14);
    }

    private static void shop() {
        GaugeWeekend x = t.fresh("promise 16");
        t.due("shop", x.shop(0, 9), 0);
        t.due("shop", x.shop(15, 1), 0);
        t.due("shop", x.shop(0, 0), 9);
        int[][] wrong = {{-1, 0}, {16, 0}, {0, -1}, {0, 10}, {LEAST, 0}, {0, MOST}};
        for (int[] w : wrong) {
            t.due("wrong shop", x.shop(w[0], w[1]), -1);
        }
        t.due("stays", x.shop(0, 3), 0);
        t.due("stays", x.shop(15, 3), 1);
    }

    private static void car() {
        GaugeWeekend x = t.fresh("promise 17");
        int[][] wrong = {{-1, 0}, {16, 0}, {0, -1}, {0, 121}, {LEAST, 0}, {0, MOST}};
        for (int[] w : wrong) {
            t.due("wrong car", x.car(w[0], w[1]), -1);
        }
        for (int i = 0; i < 30; i++) {
            t.due("car", x.car(i % 16, 4 * i), i);
        }
        t.due("no room", x.car(0, 0), -5);
        t.due("wrong ahead of no room", x.car(0, 121), -1);
        t.due("count", x.count(2), 30);
        t.due("hour", x.comes(29, 13), 116);
    }

    private static void comes() {
        GaugeWeekend x = t.chain("promise 18", 3, 5);
        x.line(0, 2, 1, 12, true);
        x.car(0, 7);
        x.car(3, 113);
        t.due("own place", x.comes(0, 0), 7);
        t.due("line 0", x.comes(0, 1), 12);
        t.due("lines 0, 1", x.comes(0, 2), 17);
        t.due("lines 0, 1, 2", x.comes(0, 3), 22);
        t.due("nowhere", x.comes(0, 4), NONE);
        t.due("back", x.comes(1, 2), 118);
        t.due("behind 120", x.comes(1, 1), NONE);
        Checks.order(x, "line 1 at 16 with 1");
        t.due("shut: round", x.comes(0, 2), 19);
        Checks.order(x, "line 1 at 17 with 1");
        t.due("just through", x.comes(0, 2), 17);
        Checks.order(x, "line 0 at 0 with 9; line 3 at 0 with 9");
        t.due("not over new ones", x.comes(0, 1), NONE);
        int[][] wrong = {{-1, 0}, {2, 0}, {0, -1}, {0, 16}, {LEAST, 0}, {0, MOST}};
        for (int[] w : wrong) {
            t.due("wrong comes", x.comes(w[0], w[1]), NONE);
        }
    }

    private static void comesOverManyLines() {
        GaugeWeekend x = t.fresh("promise 18, many lines");
        for (int i = 14; i >= 0; i--) {
            x.line(i, i + 1, 1, 8, true);
        }
        x.car(0, 0);
        x.car(0, 1);
        x.car(15, 0);
        t.due("all lines, told backwards", x.comes(0, 15), 120);
        t.due("an hour later", x.comes(1, 15), NONE);
        t.due("but one", x.comes(1, 14), 113);
        t.due("all lines, back", x.comes(2, 0), 120);
        x.shop(15, 1);
        t.due("too late to be pushed", x.pushed(120), 1);
        t.due("the third alone", x.has(2), 1);
        t.due("way", x.way(0, 0, false, 15), 120);
        t.dueSteps(x, 14, 13, 12, 11, 10, 9, 8, 7, 6, 5, 4, 3, 2, 1, 0);
    }

    private static void wayOfMostSteps() {
        GaugeWeekend x = t.fresh("promise 14, most steps");
        for (int i = 14; i >= 0; i--) {
            x.line(i, i + 1, 1, 1, true);
        }
        x.transfer(0);
        Checks.order(x, "line0at0with1;line2at0with1;line4at0with1;line6at0with1;line8at0with1;line10at0with1;"
                + "line12at0with1;line14at0with1");
        t.due("a transfer ahead of each line", x.way(0, 1, false, 15), 16);
        int[] want = new int[30];
        for (int i = 0; i < 15; i++) {
            want[2 * i] = 30;
            want[2 * i + 1] = 14 - i;
        }
        t.dueSteps(x, want);
        t.due("step", x.step(29), 0);
    }

    private static void pushedMovesOn() {
        GaugeWeekend x = t.fresh("promise 19, cars move on");
        x.line(0, 1, 1, 1, true);
        x.line(1, 2, 1, 1, true);
        x.shop(0, 1);
        x.shop(1, 1);
        x.shop(2, 1);
        // by hour 2: car 0 in 0, 1; car 1 in 0, 1; car 2 in 1, 2; all over the same few slots
        x.car(0, 0);
        x.car(0, 0);
        x.car(1, 0);
        x.car(0, 1);
        x.car(2, 1);
        t.due("by hour 1", x.pushed(1), 2);
        t.due("has", x.has(0), 1);
        t.due("has", x.has(1), 0);
        t.due("has", x.has(2), 1);
        t.due("by hour 2", x.pushed(2), 5);
        t.due("by hour 0", x.pushed(0), 0);
        t.due("wrong", x.pushed(-1), -1);
        t.due("wrong", x.pushed(121), -1);
        t.due("wrong", x.pushed(LEAST), -1);
    }

    private static void pushedInOrder() {
        GaugeWeekend x = t.fresh("promise 19, cars in order");
        x.shop(4, 2);
        x.car(4, 3);
        x.car(4, 2);
        x.car(4, 3);
        x.car(4, 0);
        x.car(4, 3);
        x.car(5, 0);
        t.due("by hour 4", x.pushed(4), 4);
        int[] in = {1, 1, 1, 1, 0, 0};
        for (int i = 0; i < in.length; i++) {
            t.due("has(" + i + ")", x.has(i), in[i]);
        }
        t.due("by hour 5", x.pushed(5), 5);
        t.due("has(4)", x.has(4), 1);
        t.due("has(5)", x.has(5), 0);
        x.shop(4, 9);
        t.due("by hour 3", x.pushed(3), 2);
        t.due("has(0)", x.has(0), 0);
        t.due("has(1)", x.has(1), 1);
    }

    private static void pushedManyHours() {
        GaugeWeekend x = t.fresh("promise 19, many hours");
        x.shop(0, 1);
        for (int i = 0; i < 30; i++) {
            x.car(0, 90);
        }
        t.due("all at the very end", x.pushed(120), 30);
        t.due("but one", x.pushed(119), 29);
        t.due("the last one is out", x.has(29), 0);
        t.due("none", x.pushed(90), 0);
        t.due("one", x.pushed(91), 1);
        x.shop(0, 9);
        t.due("nine", x.pushed(91), 9);
        t.due("eighteen", x.pushed(92), 18);
    }

    private static void has() {
        GaugeWeekend x = t.fresh("promise 20");
        x.car(0, 0);
        x.car(1, 0);
        t.due("ahead of any", x.has(0), NONE);
        x.shop(0, 1);
        x.pushed(1);
        t.due("in", x.has(0), 1);
        t.due("not in", x.has(1), 0);
        x.car(0, 0);
        t.due("told later", x.has(2), 0);
        x.pushed(121);
        x.shop(0, 0);
        t.due("the latest stays", x.has(0), 1);
        int[] wrong = {-1, 3, 30, LEAST, MOST};
        for (int w : wrong) {
            t.due("wrong has", x.has(w), NONE);
        }
        x.pushed(1);
        t.due("out", x.has(0), 0);
    }

    private static void wheel() {
        GaugeWeekend x = t.fresh("promise 21");
        t.due("no car", x.wheel(0), -2);
        x.car(0, 0);
        x.car(0, 0);
        int[] wrong = {-1, 2, 30, LEAST, MOST};
        for (int w : wrong) {
            t.due("no such car", x.wheel(w), -2);
        }
        for (int i = 0; i < 60; i++) {
            t.due("wheel", x.wheel(i & 1), i);
        }
        t.due("no room", x.wheel(0), -5);
        t.due("no car ahead of no room", x.wheel(2), -2);
        t.due("count", x.count(3), 60);
        t.due("under", x.under(59, 0, 0), 1);
    }

    private static void see() {
        GaugeWeekend x = t.fresh("promise 22");
        x.car(0, 0);
        x.wheel(0);
        int[][] wrong = {{0, 0, -1, 0}, {0, 0, 121, 0}, {0, 0, 0, -1}, {0, 0, 0, 1001}, {9, 9, 121, 0},
            {0, 0, LEAST, 0}, {0, 0, 0, MOST}};
        for (int[] w : wrong) {
            t.due("wrong see", x.see(w[0], w[1], w[2], w[3]), -1);
        }
        int[][] none = {{-1, 0}, {1, 0}, {0, -1}, {0, 1}, {LEAST, 0}, {0, MOST}};
        for (int[] w : none) {
            t.due("no such", x.see(w[0], w[1], 0, 0), -2);
        }
        for (int i = 1; i <= 200; i++) {
            t.due("see", x.see(0, 0, 120, 1000), i);
        }
        t.due("no room", x.see(0, 0, 0, 0), -5);
        t.due("none ahead of no room", x.see(1, 0, 0, 0), -2);
        t.due("wrong ahead of no room", x.see(0, 0, 121, 0), -1);
        t.due("count", x.count(4), 200);
    }

    private static void under() {
        GaugeWeekend x = t.fresh("promise 23");
        for (int i = 0; i < 5; i++) {
            x.car(0, 0);
        }
        x.wheel(4);
        x.wheel(3);
        x.see(0, 1, 10, 500);
        x.see(0, 2, 20, 100);
        x.see(1, 0, 15, 0);
        t.due("as told with", x.under(0, 9, 1000), 4);
        t.due("not known yet", x.under(0, 10, 499), 4);
        t.due("known", x.under(0, 10, 500), 1);
        t.due("known", x.under(0, 19, 1000), 1);
        t.due("later", x.under(0, 20, 1000), 2);
        t.due("later", x.under(0, 120, 100), 2);
        t.due("not known", x.under(0, 120, 99), 4);
        x.see(0, 3, 20, 100);
        t.due("told last", x.under(0, 20, 100), 3);
        x.see(0, 0, 20, 50);
        t.due("told last, though known ahead", x.under(0, 20, 100), 0);
        x.see(0, 1, 5, 0);
        t.due("earlier though told last", x.under(0, 20, 100), 0);
        t.due("the other wheel", x.under(1, 14, 1000), 3);
        t.due("the other wheel", x.under(1, 15, 0), 0);
        x.see(1, 2, 0, 0);
        t.due("from hour 0", x.under(1, 0, 0), 2);
        int[][] wrong = {{-1, 0, 0}, {2, 0, 0}, {0, -1, 0}, {0, 121, 0}, {0, 0, -1}, {0, 0, 1001},
            {MOST, 0, 0}, {0, LEAST, 0}, {0, 0, MOST}};
        for (int[] w : wrong) {
            t.due("wrong under", x.under(w[0], w[1], w[2]), NONE);
        }
    }

    private static void count() {
        GaugeWeekend x = t.chain("promise 24", 3, 1);
        Checks.order(x, "line 2 at 9 with 1;line 1 at 4 with 1");
        x.car(0, 0);
        x.wheel(0);
        x.wheel(0);
        for (int i = 0; i < 4; i++) {
            x.see(0, 0, 0, 0);
        }
        x.feed(0, 0, 0, 0, 0);
        x.end(7);
        int[] want = {3, 2, 1, 2, 4, 7, 12};
        for (int i = 0; i < want.length; i++) {
            t.due("count(" + i + ")", x.count(i), want[i]);
        }
        t.due("count(-1)", x.count(-1), NONE);
        t.due("count(7)", x.count(7), NONE);
        t.due("count(MIN)", x.count(LEAST), NONE);
    }

    private static void status() {
        GaugeWeekend x = t.fresh("promise 25");
        dueStatus(x, "line", x.line(0, 0, 1, 1, true), -1, -1);
        dueStatus(x, "line", x.line(0, 1, 1, 1, true), 0, 0);
        dueStatus(x, "rates", x.rates(0, 0), -1, -1);
        dueStatus(x, "rates", x.rates(4, 2), 0, 0);
        dueStatus(x, "gangs", x.gangs(-1), -1, -1);
        dueStatus(x, "gangs", x.gangs(9), 20, 0);
        dueStatus(x, "transfer", x.transfer(-1), -1, -1);
        dueStatus(x, "transfer", x.transfer(9), 3, 0);
        dueStatus(x, "orders", Checks.order(x, "x"), -6, -6);
        dueStatus(x, "orders", Checks.order(x, "line 0 at 0 with 9"), 1, 0);
        dueStatus(x, "way", x.way(0, 0, true, 9), -6, -6);
        dueStatus(x, "way", x.way(0, 0, true, 1), 2, 0);
        dueStatus(x, "shop", x.shop(16, 0), -1, -1);
        dueStatus(x, "shop", x.shop(0, 2), 0, 0);
        dueStatus(x, "car", x.car(16, 0), -1, -1);
        dueStatus(x, "car", x.car(0, 0), 0, 0);
        dueStatus(x, "pushed", x.pushed(121), -1, -1);
        dueStatus(x, "pushed", x.pushed(1), 1, 0);
        dueStatus(x, "wheel", x.wheel(1), -2, -2);
        dueStatus(x, "wheel", x.wheel(0), 0, 0);
        dueStatus(x, "see", x.see(0, 1, 0, 0), -2, -2);
        x.feed(0, 0, 0, 0, 0);
        x.end(0);
        x.end(-1);
        x.fault();
        x.of(0, 0);
        x.is(0, 0);
        x.busy(0);
        x.lack();
        x.step(0);
        x.comes(0, 0);
        x.has(0);
        x.under(0, 0, 0);
        x.count(0);
        t.due("the others leave it", x.status(), -2);
        dueStatus(x, "see", x.see(0, 0, 0, 0), 1, 0);
        x.is(99, 0);
        x.comes(9, 9);
        t.due("the others leave it", x.status(), 0);
    }

    private static void dueStatus(GaugeWeekend x, String call, int answer, int want, int status) {
        t.due(call, answer, want);
        t.due("status of " + call, x.status(), status);
    }
}
