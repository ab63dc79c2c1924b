/** Promises 21 to 25 at the edges that Terms I and V name: wheels, what was seen, counts, status. */
public final class WheelsEdgesTest {
    private static final int LEAST = Checks.LEAST;
    private static final int MOST = Checks.MOST;
    private static final int NONE = Checks.NONE;
    private static final int BAD_NUMBER = Checks.BAD_NUMBER;
    private static final int NO_SUCH = Checks.NO_SUCH;
    private static final int[] WRONG_HOURS = {LEAST, -120, -1, 121, 122, 256, 65536, MOST};
    private static final int[] WRONG_KNOWN = {LEAST, -1000, -1, 1001, 1002, 65536, MOST};
    private static final Checks t = new Checks();

    public static void main(String[] args) {
        promise21WhichCar();
        promise21SixtyWheels();
        promise22HoursAndKnown();
        promise22WhichWheelAndCar();
        promise22InWhichOrderRefused();
        promise22TwoHundredSeen();
        promise22RefusedChangesNothing();
        promise23WhichWheelAndHours();
        promise23WithoutOne();
        promise23LatestHourNotBehind();
        promise23KnownBy();
        promise23AlikeToldLast();
        promise23EachWheelByItself();
        promise23FirstAndLastOfTwoHundred();
        promise24WhichCount();
        promise24FullOnes();
        promise24AllDone();
        promise25AheadOfAny();
        promise25OfEachCall();
        promise25OtherCallsLeaveIt();
        t.close();
    }

    private static void promise21WhichCar() {
        GaugeWeekend x = t.alikeCars("promise 21: a CAR that there is, -2", 0);
        t.dueRefused(x, "without cars", x.wheel(0), NO_SUCH);
        x = t.alikeCars("promise 21: a CAR that there is, -2", 29);
        int[] wrong = {LEAST, -29, -1, 29, 30, 31, 256, 65536, MOST};
        for (int car : wrong) {
            t.dueRefused(x, "wheel(" + car + ")", x.wheel(car), NO_SUCH);
        }
        t.due("count", x.count(3), 0);
        t.dueTaken(x, "the first", x.wheel(0), 0);
        t.dueTaken(x, "the last", x.wheel(28), 1);
        t.dueTaken(x, "one car twice", x.wheel(28), 2);
        x.car(0, 0);
        t.dueTaken(x, "car 29", x.wheel(29), 3);
        t.dueRefused(x, "car 30", x.wheel(30), NO_SUCH);
        t.due("under", x.under(0, 0, 0), 0);
        t.due("under", x.under(1, 0, 0), 28);
        t.due("under", x.under(3, 120, 1000), 29);
    }

    private static void promise21SixtyWheels() {
        GaugeWeekend x = t.alikeCars("promise 21: WHEELS 0 .. 59 (60 at most), -2 ahead of -5", 30);
        for (int i = 0; i < 59; i++) {
            t.dueTaken(x, "wheel", x.wheel(i % 30), i);
        }
        t.due("wheel 59 is not there yet", x.under(59, 0, 0), NONE);
        t.dueRefused(x, "wrong with room for one", x.wheel(30), NO_SUCH);
        t.dueTaken(x, "the last that has room", x.wheel(7), 59);
        t.dueRefused(x, "the first that has none", x.wheel(0), Checks.NO_ROOM);
        t.dueRefused(x, "no such car", x.wheel(30), NO_SUCH);
        t.dueRefused(x, "no such car", x.wheel(-1), NO_SUCH);
        t.dueRefused(x, "no room still", x.wheel(29), Checks.NO_ROOM);
        t.due("count", x.count(3), 60);
        for (int i = 0; i < 59; i++) {
            t.due("under(" + i + ")", x.under(i, 60, 0), i % 30);
        }
        t.due("the last one stays", x.under(59, 0, 0), 7);
        t.due("no wheel 60", x.under(60, 0, 0), NONE);
    }

    private static GaugeWeekend wheelsUnderCars(String what, int many) {
        GaugeWeekend x = t.alikeCars(what, many);
        for (int i = 0; i < many; i++) {
            x.wheel(i);
        }
        return x;
    }

    private static void promise22HoursAndKnown() {
        GaugeWeekend x = wheelsUnderCars("promise 22: from an HOUR on, known from an HOUR on (0 .. 1000)", 2);
        for (int hour : WRONG_HOURS) {
            t.dueRefused(x, "hour " + hour, x.see(0, 1, hour, 0), BAD_NUMBER);
        }
        for (int known : WRONG_KNOWN) {
            t.dueRefused(x, "known " + known, x.see(0, 1, 0, known), BAD_NUMBER);
        }
        t.due("count", x.count(4), 0);
        t.dueTaken(x, "the smallest", x.see(0, 1, 0, 0), 1);
        t.dueTaken(x, "the largest", x.see(0, 1, 120, 1000), 2);
        t.dueTaken(x, "known long ahead", x.see(0, 1, 120, 0), 3);
        t.dueTaken(x, "known long behind", x.see(0, 1, 0, 1000), 4);
        t.due("count", x.count(4), 4);
    }

    private static void promise22WhichWheelAndCar() {
        GaugeWeekend x = wheelsUnderCars("promise 22: a WHEEL and a CAR that there are, -2", 3);
        int[] wrong = {LEAST, -3, -1, 3, 4, 29, 30, 59, 60, 256, 65536, MOST};
        for (int i : wrong) {
            t.dueRefused(x, "wheel " + i, x.see(i, 0, 0, 0), NO_SUCH);
            t.dueRefused(x, "car " + i, x.see(0, i, 0, 0), NO_SUCH);
            t.dueRefused(x, "both " + i, x.see(i, i, 0, 0), NO_SUCH);
        }
        t.dueTaken(x, "the last of both", x.see(2, 2, 0, 0), 1);
        t.dueTaken(x, "under the car it is under", x.see(0, 0, 0, 0), 2);
        x.car(0, 0);
        t.dueTaken(x, "a car told since", x.see(2, 3, 0, 0), 3);
        t.dueRefused(x, "no wheel 3", x.see(3, 3, 0, 0), NO_SUCH);
        x.wheel(0);
        t.dueTaken(x, "a wheel told since", x.see(3, 3, 0, 0), 4);
    }

    private static void promise22InWhichOrderRefused() {
        GaugeWeekend x = t.fresh("promise 22: -1 ahead of -2 ahead of -5");
        t.dueRefused(x, "nothing there", x.see(0, 0, 0, 0), NO_SUCH);
        t.dueRefused(x, "nothing there, hour", x.see(0, 0, 121, 0), BAD_NUMBER);
        t.dueRefused(x, "nothing there, known", x.see(0, 0, 0, 1001), BAD_NUMBER);
        x = wheelsUnderCars("promise 22: -1 ahead of -2 ahead of -5, when full", 1);
        for (int i = 1; i <= 200; i++) {
            x.see(0, 0, 0, 0);
        }
        t.dueRefused(x, "hour", x.see(0, 0, -1, 0), BAD_NUMBER);
        t.dueRefused(x, "hour, wheel", x.see(1, 0, -1, 0), BAD_NUMBER);
        t.dueRefused(x, "known, car", x.see(0, 1, 0, -1), BAD_NUMBER);
        t.dueRefused(x, "wheel", x.see(1, 0, 0, 0), NO_SUCH);
        t.dueRefused(x, "car", x.see(0, 1, 0, 0), NO_SUCH);
        t.dueRefused(x, "no room", x.see(0, 0, 0, 0), Checks.NO_ROOM);
    }

    private static void promise22TwoHundredSeen() {
        GaugeWeekend x = wheelsUnderCars("promise 22: SEEN, 200 at most", 2);
        for (int i = 1; i <= 199; i++) {
            t.due("see", x.see(0, 1, 0, 500), i);
        }
        t.due("count", x.count(4), 199);
        t.dueTaken(x, "the last that has room", x.see(1, 0, 0, 0), 200);
        t.dueRefused(x, "the first that has none", x.see(0, 0, 120, 0), Checks.NO_ROOM);
        t.dueRefused(x, "nor has another wheel", x.see(1, 1, 0, 0), Checks.NO_ROOM);
        t.due("count", x.count(4), 200);
        t.due("the last that has room counts", x.under(1, 0, 0), 0);
        t.due("the first that has none does not", x.under(0, 120, 0), 0);
        t.due("nor there", x.under(0, 120, 500), 1);
    }

    private static void promise22RefusedChangesNothing() {
        GaugeWeekend x = wheelsUnderCars("promise 22: a refused call changes nothing", 2);
        x.see(0, 1, 0, 1001);
        x.see(0, 1, 121, 0);
        x.see(0, 2, 0, 0);
        x.see(2, 1, 0, 0);
        t.due("count", x.count(4), 0);
        t.due("under", x.under(0, 120, 1000), 0);
        t.due("the next is the first", x.see(0, 1, 120, 1000), 1);
        t.due("under", x.under(0, 120, 1000), 1);
    }

    private static void promise23WhichWheelAndHours() {
        GaugeWeekend x = wheelsUnderCars("promise 23: WHEELS that there are, HOURS 0 .. 120, known 0 .. 1000", 3);
        int[] wheels = {LEAST, -3, -1, 3, 4, 59, 60, 256, 65536, MOST};
        for (int wheel : wheels) {
            t.due("under(" + wheel + ", 0, 0)", x.under(wheel, 0, 0), NONE);
        }
        for (int hour : WRONG_HOURS) {
            t.due("under(0, " + hour + ", 0)", x.under(0, hour, 0), NONE);
        }
        for (int known : WRONG_KNOWN) {
            t.due("under(0, 0, " + known + ")", x.under(0, 0, known), NONE);
        }
        t.due("the smallest", x.under(0, 0, 0), 0);
        t.due("the largest", x.under(2, 120, 1000), 2);
    }

    private static void promise23WithoutOne() {
        GaugeWeekend x = wheelsUnderCars("promise 23: without one under that with which it was told", 3);
        for (int hour = 0; hour <= 120; hour += 60) {
            for (int known = 0; known <= 1000; known += 250) {
                t.due("nothing seen", x.under(2, hour, known), 2);
            }
        }
        x.see(2, 0, 50, 700);
        t.due("none by that hour", x.under(2, 49, 1000), 2);
        t.due("none known by then", x.under(2, 120, 699), 2);
        t.due("neither", x.under(2, 0, 0), 2);
        t.due("that one", x.under(2, 50, 700), 0);
    }

    private static void promise23LatestHourNotBehind() {
        GaugeWeekend x = wheelsUnderCars("promise 23: of the latest HOUR not behind h", 6);
        x.see(0, 1, 119, 0);
        x.see(0, 2, 1, 0);
        x.see(0, 3, 60, 0);
        x.see(0, 4, 0, 0);
        x.see(0, 5, 120, 0);
        for (int hour = 0; hour <= 120; hour++) {
            int car = hour < 1 ? 4 : hour < 60 ? 2 : hour < 119 ? 3 : hour < 120 ? 1 : 5;
            t.due("under(0, " + hour + ", 0)", x.under(0, hour, 0), car);
        }
    }

    private static void promise23KnownBy() {
        GaugeWeekend x = wheelsUnderCars("promise 23: known by k", 5);
        x.see(0, 1, 10, 0);
        x.see(0, 2, 20, 1000);
        x.see(0, 3, 15, 1);
        x.see(0, 4, 18, 999);
        t.due("known by 0", x.under(0, 30, 0), 1);
        t.due("known by 1", x.under(0, 30, 1), 3);
        t.due("known by 998", x.under(0, 30, 998), 3);
        t.due("known by 999", x.under(0, 30, 999), 4);
        t.due("known by 1000", x.under(0, 30, 1000), 2);
        t.due("known by 1000, ahead of them", x.under(0, 9, 1000), 0);
        t.due("known by 1000, in hour 19", x.under(0, 19, 1000), 4);
    }

    private static void promise23AlikeToldLast() {
        GaugeWeekend x = wheelsUnderCars("promise 23: of alike ones the one told last", 5);
        x.see(0, 1, 10, 5);
        x.see(0, 2, 10, 5);
        t.due("of two", x.under(0, 10, 5), 2);
        x.see(0, 3, 10, 7);
        t.due("the last is not known yet", x.under(0, 10, 6), 2);
        t.due("the last is known", x.under(0, 10, 7), 3);
        x.see(0, 4, 10, 0);
        t.due("known sooner, told last", x.under(0, 10, 7), 4);
        t.due("known alone", x.under(0, 10, 0), 4);
        x.see(0, 1, 9, 0);
        t.due("told last of all, but ahead of that hour", x.under(0, 10, 7), 4);
        t.due("in that hour", x.under(0, 9, 0), 1);
        x.see(0, 0, 0, 0);
        x.see(0, 2, 0, 0);
        t.due("in hour 0", x.under(0, 0, 0), 2);
    }

    private static void promise23EachWheelByItself() {
        GaugeWeekend x = wheelsUnderCars("promise 23: each WHEEL by itself", 3);
        x.see(1, 0, 10, 0);
        t.due("the one ahead", x.under(0, 20, 0), 0);
        t.due("this one", x.under(1, 20, 0), 0);
        t.due("the one behind", x.under(2, 20, 0), 2);
        x.see(2, 0, 5, 0);
        x.see(0, 2, 15, 0);
        t.due("the one ahead", x.under(0, 20, 0), 2);
        t.due("this one", x.under(1, 20, 0), 0);
        t.due("the one behind", x.under(2, 20, 0), 0);
    }

    private static void promise23FirstAndLastOfTwoHundred() {
        GaugeWeekend x = wheelsUnderCars("promise 23: the first and the last of 200", 4);
        x.see(0, 1, 100, 0);
        for (int i = 1; i < 199; i++) {
            x.see(1, 2, i % 100, i);
        }
        x.see(2, 3, 100, 0);
        t.due("the first", x.under(0, 100, 0), 1);
        t.due("the last", x.under(2, 100, 0), 3);
        t.due("those between", x.under(1, 0, 1), 1);
        t.due("those between", x.under(1, 1, 1), 2);
    }

    private static void promise24WhichCount() {
        GaugeWeekend x = t.alikeLines("promise 24: what 0 .. 6, NONE for others", 7);
        Checks.order(x, "line 0 at 4 with 1; line 1 at 3 with 1; line 2 at 2 with 1; line 3 at 1 with 1; line 4 at 0 with 1; line 5 at 0 with 1");
        for (int i = 0; i < 4; i++) {
            x.car(0, 0);
        }
        x.wheel(0);
        x.wheel(0);
        x.wheel(0);
        x.see(0, 0, 0, 0);
        x.see(0, 0, 0, 0);
        x.feed(0, 0, 0, 0, 0);
        x.end(9);
        int[] want = {7, 6, 4, 3, 2, 9, 5};
        for (int what = 0; what <= 6; what++) {
            t.due("count(" + what + ")", x.count(what), want[what]);
        }
        int[] wrong = {LEAST, -7, -1, 7, 8, 256, 65536, MOST};
        for (int what : wrong) {
            t.due("count(" + what + ")", x.count(what), NONE);
        }
    }

    private static void promise24FullOnes() {
        GaugeWeekend x = t.alikeLines("promise 24: 30 LINES, 30 CARS, 60 WHEELS, 400 bytes", 30);
        for (int i = 0; i < 31; i++) {
            x.car(0, 0);
        }
        for (int i = 0; i < 61; i++) {
            x.wheel(0);
        }
        for (int i = 0; i < 21; i++) {
            x.feed(0, 0, 0, 0, 0);
        }
        x.line(0, 1, 1, 1, true);
        int[] want = {30, 0, 30, 60, 0, 400, 0};
        for (int what = 0; what <= 6; what++) {
            t.due("count(" + what + ")", x.count(what), want[what]);
        }
    }

    private static void promise24AllDone() {
        GaugeWeekend x = t.fresh("promise 24: 6 the HOUR in which all ORDERS are DONE (0 without)");
        x.line(0, 1, 200, 1, true);
        x.line(0, 1, 1, 1, true);
        x.line(0, 1, 1, 1, true);
        t.due("without", x.count(6), 0);
        Checks.order(x, "line 1 at 0 with 1");
        t.due("the soonest", x.count(6), 1);
        Checks.order(x, "line 1 at 50 with 1; line 2 at 3 with 1");
        t.due("the first is the last", x.count(6), 51);
        Checks.order(x, "line 2 at 3 with 1; line 1 at 50 with 1");
        t.due("the last is the last", x.count(6), 51);
        x.rates(1, 1);
        Checks.order(x, "line 0 at 100 with 1; line 1 after 0 and 99 with 1; line 2 after 1 and 99 with 1");
        t.due("behind 120", x.count(6), 100 + 200 + 99 + 1 + 99 + 1);
        Checks.order(x, "line 1 at 7 with 1;");
        t.due("refused, they stay", x.count(6), 500);
        Checks.order(x, " ");
        t.due("without", x.count(6), 0);
    }

    private static void promise25AheadOfAny() {
        GaugeWeekend x = t.fresh("promise 25: 0 ahead of any");
        t.due("status", x.status(), 0);
        askOthers(x, 99);
        t.due("ahead of any of those", x.status(), 0);
    }

    /** Each call refused in each way that it can be, and good again. */
    private static void promise25OfEachCall() {
        GaugeWeekend x = t.fresh("promise 25: what the latest of those calls was REFUSED by");
        t.dueRefused(x, "line", x.line(0, 0, 1, 1, true), BAD_NUMBER);
        t.dueTaken(x, "line", x.line(0, 1, 1, 1, true), 0);
        t.dueRefused(x, "rates", x.rates(0, 1), BAD_NUMBER);
        t.dueTaken(x, "rates", x.rates(4, 2), 0);
        t.dueRefused(x, "gangs", x.gangs(100), BAD_NUMBER);
        t.dueTaken(x, "gangs", x.gangs(0), 20);
        t.dueRefused(x, "transfer", x.transfer(13), BAD_NUMBER);
        t.dueTaken(x, "transfer", x.transfer(0), 3);
        t.dueRefused(x, "orders", Checks.order(x, "line"), Checks.BAD_TEXT);
        t.dueTaken(x, "orders", Checks.order(x, " "), 0);
        t.dueRefused(x, "way", x.way(0, 0, false, 16), BAD_NUMBER);
        t.dueTaken(x, "way", x.way(0, 0, false, 0), 0);
        t.dueRefused(x, "way", x.way(0, 0, false, 15), Checks.NO_WAY);
        t.dueTaken(x, "way", x.way(0, 0, false, 1), 1);
        t.dueRefused(x, "shop", x.shop(0, 10), BAD_NUMBER);
        t.dueTaken(x, "shop", x.shop(0, 0), 0);
        t.dueRefused(x, "car", x.car(0, 121), BAD_NUMBER);
        t.dueTaken(x, "car", x.car(0, 0), 0);
        t.dueRefused(x, "pushed", x.pushed(121), BAD_NUMBER);
        t.dueTaken(x, "pushed", x.pushed(0), 0);
        t.dueRefused(x, "wheel", x.wheel(1), NO_SUCH);
        t.dueTaken(x, "wheel", x.wheel(0), 0);
        t.dueRefused(x, "see", x.see(0, 0, 0, 1001), BAD_NUMBER);
        t.dueTaken(x, "see", x.see(0, 0, 0, 0), 1);
        t.dueRefused(x, "see", x.see(1, 0, 0, 0), NO_SUCH);
        t.dueTaken(x, "see", x.see(0, 0, 0, 0), 2);
    }

    private static void promise25OtherCallsLeaveIt() {
        GaugeWeekend x = t.alikeCars("promise 25: other calls leave it", 1);
        x.line(0, 1, 1, 1, true);
        x.wheel(0);
        dueLeft(x, 0);
        x.wheel(1);
        dueLeft(x, NO_SUCH);
        x.way(0, 0, false, 5);
        dueLeft(x, Checks.NO_WAY);
        for (int i = 0; i < 30; i++) {
            x.car(0, 0);
        }
        dueLeft(x, Checks.NO_ROOM);
        x.gangs(-1);
        dueLeft(x, BAD_NUMBER);
    }

    private static void dueLeft(GaugeWeekend x, int status) {
        askOthers(x, 0);
        t.due("good ones", x.status(), status);
        askOthers(x, 99);
        t.due("bad ones", x.status(), status);
        t.due("itself", x.status(), status);
    }

    /** Calls that are never REFUSED, all good with number 0, all answering NONE with 99. */
    private static void askOthers(GaugeWeekend x, int number) {
        int status = x.status();
        int[] answers = {x.end(number), x.fault(), x.of(number, 0), x.of(0, number), x.is(number, 0), x.is(0, 121 * number),
            x.busy(2 * number), x.lack(), x.step(number), x.comes(number, 0), x.comes(0, number), x.has(number),
            x.under(number, 0, 0), x.under(0, 2 * number, 0), x.count(number)};
        for (int i = 0; i < answers.length && number == 99; i++) {
            t.due("other call " + i, answers[i], NONE);
        }
        x.feed(number, 0, 0, 0, 0);
        x.end(0);
        t.due("status", x.status(), status);
    }
}
