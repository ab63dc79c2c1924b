/** Promises 16 to 20 at the edges that Term IV names: shops, cars, where they come, which are pushed. */
public final class CarsEdgesTest {
    private static final int LEAST = Checks.LEAST;
    private static final int MOST = Checks.MOST;
    private static final int NONE = Checks.NONE;
    private static final int BAD_NUMBER = Checks.BAD_NUMBER;
    private static final int[] WRONG_PLACES = {LEAST, -16, -1, 16, 17, 32, 256, 65536, MOST};
    private static final int[] WRONG_HOURS = {LEAST, -120, -1, 121, 122, 256, 65536, MOST};
    private static final Checks t = new Checks();

    public static void main(String[] args) {
        promise16Places();
        promise16Pushers();
        promise17PlacesAndHours();
        promise17ThirtyCars();
        promise17RefusedChangesNothing();
        promise18WhichCarAndPlace();
        promise18OwnPlace();
        promise18ByHour120();
        promise18OldUpToTheHourAhead();
        promise18SoonestOfMany();
        promise18NotOverNewOnes();
        promise19Hours();
        promise19AheadOfE();
        promise19FromItsHourOn();
        promise19FirstAndLastHourOfAll();
        promise19EachOnce();
        promise19NoMoreThanItsPushers();
        promise19WithoutPushers();
        promise19CarsInOrder();
        promise19AllInItCanStill();
        promise19AsManyAsCanBe();
        promise19ThirtyCars();
        promise19ThirtyCarsInALongChain();
        promise19OverOldLines();
        promise19RefusedLatestStays();
        promise20WhichCar();
        promise20TheLatest();
        t.close();
    }

    private static void promise16Places() {
        GaugeWeekend x = t.fresh("promise 16: PLACES 0 .. 15");
        for (int place = 0; place <= 15; place++) {
            t.dueTaken(x, "shop(" + place + ")", x.shop(place, place % 10), 0);
        }
        for (int place : WRONG_PLACES) {
            t.dueRefused(x, "shop(" + place + ", 1)", x.shop(place, 1), BAD_NUMBER);
        }
        for (int place = 0; place <= 15; place++) {
            t.dueTaken(x, "what they were", x.shop(place, 0), place % 10);
        }
    }

    private static void promise16Pushers() {
        GaugeWeekend x = t.fresh("promise 16: pushers (0 .. 9)");
        for (int many = 0; many <= 9; many++) {
            t.dueTaken(x, "shop(7, " + many + ")", x.shop(7, many), Math.max(0, many - 1));
        }
        int[] wrong = {LEAST, -9, -1, 10, 11, 256 + 1, 65536 + 1, MOST};
        for (int many : wrong) {
            t.dueRefused(x, "shop(7, " + many + ")", x.shop(7, many), BAD_NUMBER);
            t.dueRefused(x, "shop(16, " + many + ")", x.shop(16, many), BAD_NUMBER);
        }
        t.dueTaken(x, "they stay", x.shop(7, 9), 9);
        for (int i = 0; i < 10; i++) {
            x.car(7, 0);
        }
        t.due("nine in an hour", x.pushed(1), 9);
        t.dueTaken(x, "none again", x.shop(7, 0), 9);
        t.due("none", x.pushed(120), 0);
    }

    private static void promise17PlacesAndHours() {
        GaugeWeekend x = t.fresh("promise 17: a PLACE, from an HOUR on");
        for (int place : WRONG_PLACES) {
            t.dueRefused(x, "car(" + place + ", 0)", x.car(place, 0), BAD_NUMBER);
        }
        for (int hour : WRONG_HOURS) {
            t.dueRefused(x, "car(0, " + hour + ")", x.car(0, hour), BAD_NUMBER);
        }
        t.due("count", x.count(2), 0);
        t.dueTaken(x, "car(0, 0)", x.car(0, 0), 0);
        t.dueTaken(x, "car(15, 120)", x.car(15, 120), 1);
        t.dueTaken(x, "car(15, 0)", x.car(15, 0), 2);
        t.dueTaken(x, "car(0, 120)", x.car(0, 120), 3);
        t.due("count", x.count(2), 4);
        t.due("hour 0", x.comes(0, 0), 0);
        t.due("hour 120", x.comes(1, 15), 120);
        t.due("hour 0", x.comes(2, 15), 0);
        t.due("hour 120", x.comes(3, 0), 120);
    }

    private static void promise17ThirtyCars() {
        GaugeWeekend x = t.fresh("promise 17: CARS 0 .. 29 (30 at most), -1 ahead of -5");
        for (int i = 0; i < 29; i++) {
            t.dueTaken(x, "car", x.car(i % 16, i), i);
        }
        t.due("car 29 is not there yet", x.has(29), NONE);
        t.dueRefused(x, "wrong with room for one", x.car(0, 121), BAD_NUMBER);
        t.dueTaken(x, "the last that has room", x.car(15, 29), 29);
        t.dueRefused(x, "the first that has none", x.car(0, 0), Checks.NO_ROOM);
        t.dueRefused(x, "place", x.car(16, 0), BAD_NUMBER);
        t.dueRefused(x, "hour", x.car(0, -1), BAD_NUMBER);
        t.dueRefused(x, "no room still", x.car(0, 0), Checks.NO_ROOM);
        t.due("count", x.count(2), 30);
        for (int i = 0; i < 29; i++) {
            t.due("comes(" + i + ")", x.comes(i, i % 16), i);
        }
        t.due("the last one stays", x.comes(29, 15), 29);
        t.due("no car 30", x.comes(30, 0), NONE);
    }

    private static void promise17RefusedChangesNothing() {
        GaugeWeekend x = t.fresh("promise 17: a refused call changes nothing");
        x.car(5, 6);
        x.car(16, 7);
        x.car(5, 121);
        t.due("count", x.count(2), 1);
        t.due("comes", x.comes(0, 5), 6);
        t.due("no car 1", x.comes(1, 5), NONE);
        t.due("next", x.car(4, 3), 1);
        t.due("comes", x.comes(1, 4), 3);
    }

    private static void promise18WhichCarAndPlace() {
        GaugeWeekend x = t.chain("promise 18: CARS that there are, PLACES 0 .. 15", 15, 1);
        x.car(0, 0);
        x.car(15, 0);
        int[] cars = {LEAST, -2, -1, 2, 3, 29, 30, 256, 65536, MOST};
        for (int car : cars) {
            t.due("comes(" + car + ", 0)", x.comes(car, 0), NONE);
            t.due("comes(" + car + ", 16)", x.comes(car, 16), NONE);
        }
        for (int place : WRONG_PLACES) {
            t.due("comes(0, " + place + ")", x.comes(0, place), NONE);
            t.due("comes(1, " + place + ")", x.comes(1, place), NONE);
        }
        for (int place = 0; place <= 15; place++) {
            t.due("comes(0, " + place + ")", x.comes(0, place), place);
            t.due("comes(1, " + place + ")", x.comes(1, place), 15 - place);
        }
    }

    private static void promise18OwnPlace() {
        GaugeWeekend x = t.chain("promise 18: in its own PLACE: from its HOUR on", 2, 1);
        x.car(1, 0);
        x.car(1, 60);
        x.car(1, 120);
        Checks.order(x, "line 0 at 0 with 1; line 1 at 0 with 1");
        t.due("hour 0", x.comes(0, 1), 0);
        t.due("hour 60", x.comes(1, 1), 60);
        t.due("hour 120", x.comes(2, 1), 120);
        t.due("never elsewhere", x.comes(0, 0), NONE);
        t.due("never elsewhere", x.comes(0, 2), NONE);
        t.due("never, no line", x.comes(0, 15), NONE);
    }

    private static void promise18ByHour120() {
        for (int hours = 1; hours <= 12; hours++) {
            GaugeWeekend x = t.chain("promise 18: HOURS 0 .. 120, lines of " + hours, 2, hours);
            x.car(0, 120 - hours);
            x.car(0, 121 - hours);
            x.car(0, 120 - 2 * hours);
            x.car(2, 121 - 2 * hours);
            x.car(0, 120);
            t.due("one line", x.comes(0, 1), 120);
            t.due("two lines", x.comes(0, 2), NONE);
            t.due("one line, an hour later", x.comes(1, 1), NONE);
            t.due("two lines", x.comes(2, 2), 120);
            t.due("one of two", x.comes(3, 1), 121 - hours);
            t.due("two lines, an hour later", x.comes(3, 0), NONE);
            t.due("in the last hour", x.comes(4, 1), NONE);
        }
    }

    private static void promise18OldUpToTheHourAhead() {
        for (int hours = 1; hours <= 12; hours++) {
            GaugeWeekend x = t.chain("promise 18: over OLD LINES as an old train does, of " + hours, 1, hours);
            Checks.order(x, "line 0 at 50 with 1");
            for (int hour = 49; hour <= 52; hour++) {
                x.car(0, hour - hours);
                x.car(1, hour - hours);
                t.due("there by " + hour, x.comes(2 * hour - 98, 1), hour <= 50 ? hour : NONE);
                t.due("back by " + hour, x.comes(2 * hour - 97, 0), hour <= 50 ? hour : NONE);
            }
        }
        GaugeWeekend x = t.chain("promise 18: BEGINS about the train's hours", 1, 4);
        x.car(0, 0);
        Checks.order(x, "line 0 at 4 with 1");
        t.due("begins in 4", x.comes(0, 1), 4);
        Checks.order(x, "line 0 at 3 with 1");
        t.due("begins in 3", x.comes(0, 1), NONE);
        Checks.order(x, "line 0 at 0 with 1");
        t.due("begins in 0", x.comes(0, 1), NONE);
        Checks.order(x, "");
        t.due("without an ORDER", x.comes(0, 1), 4);
    }

    private static void promise18SoonestOfMany() {
        GaugeWeekend x = t.fresh("promise 18: the first HOUR, over whichever LINES");
        x.line(0, 3, 4, 7, true);
        x.line(2, 3, 4, 1, true);
        x.line(1, 2, 4, 2, true);
        x.line(1, 0, 4, 3, true);
        x.line(0, 3, 4, 12, true);
        x.car(0, 10);
        t.due("three lines", x.comes(0, 3), 16);
        Checks.order(x, "line 1 at 16 with 1");
        t.due("in time", x.comes(0, 3), 16);
        Checks.order(x, "line 1 at 15 with 1");
        t.due("the straight one", x.comes(0, 3), 17);
        Checks.order(x, "line 1 at 15 with 1; line 0 at 16 with 1");
        t.due("the slow one", x.comes(0, 3), 22);
        Checks.order(x, "line 1 at 15 with 1; line 0 at 16 with 1; line 4 at 21 with 1");
        t.due("none is left", x.comes(0, 3), NONE);
        t.due("so far", x.comes(0, 2), 15);
    }

    private static void promise18NotOverNewOnes() {
        GaugeWeekend x = t.chain("promise 18: over OLD LINES, never over NEW ones", 2, 1);
        x.transfer(0);
        x.car(0, 0);
        x.car(0, 5);
        x.car(1, 5);
        Checks.order(x, "line 0 at 1 with 99");
        t.due("ahead", x.comes(0, 2), 2);
        t.due("new by then", x.comes(1, 1), NONE);
        t.due("new by then", x.comes(1, 2), NONE);
        t.due("from behind it", x.comes(2, 2), 6);
        t.due("not back", x.comes(2, 0), NONE);
    }

    private static void promise19Hours() {
        GaugeWeekend x = t.alikeCars("promise 19: by an HOUR E (0 .. 120), -1", 1);
        x.shop(0, 1);
        for (int hour : WRONG_HOURS) {
            t.dueRefused(x, "pushed(" + hour + ")", x.pushed(hour), BAD_NUMBER);
        }
        t.dueTaken(x, "pushed(0)", x.pushed(0), 0);
        t.dueTaken(x, "pushed(120)", x.pushed(120), 1);
        t.dueTaken(x, "pushed(119)", x.pushed(119), 1);
        t.dueTaken(x, "pushed(1)", x.pushed(1), 1);
    }

    private static void promise19AheadOfE() {
        GaugeWeekend x = t.alikeCars("promise 19: pushed in HOURS ahead of E", 5);
        x.shop(0, 1);
        for (int e = 0; e <= 7; e++) {
            t.dueTaken(x, "pushed(" + e + ")", x.pushed(e), Math.min(e, 5));
            for (int car = 0; car < 5; car++) {
                t.due("has(" + car + ")", x.has(car), car < e ? 1 : 0);
            }
        }
        x.shop(0, 3);
        t.due("none in no hour", x.pushed(0), 0);
        t.due("three in one", x.pushed(1), 3);
        t.due("all in two", x.pushed(2), 5);
    }

    private static void promise19FromItsHourOn() {
        GaugeWeekend x = t.fresh("promise 19: in its own PLACE from its HOUR on");
        x.shop(3, 9);
        x.car(3, 10);
        x.car(3, 11);
        x.car(3, 120);
        t.due("by 10", x.pushed(10), 0);
        t.due("by 11", x.pushed(11), 1);
        t.dueHas(x, 1, 0, 0);
        t.due("by 12", x.pushed(12), 2);
        t.dueHas(x, 1, 1, 0);
        t.due("hour 120 is ahead of none", x.pushed(120), 2);
        t.dueHas(x, 1, 1, 0);
    }

    private static void promise19FirstAndLastHourOfAll() {
        GaugeWeekend x = t.fresh("promise 19: HOUR 0 is the first, 119 the last");
        x.shop(0, 1);
        x.car(0, 119);
        x.car(0, 119);
        x.car(0, 0);
        t.due("by 120", x.pushed(120), 2);
        t.dueHas(x, 1, 0, 1);
        t.due("by 119", x.pushed(119), 1);
        t.dueHas(x, 0, 0, 1);
        t.due("by 1", x.pushed(1), 1);
        t.dueHas(x, 0, 0, 1);
    }

    private static void promise19EachOnce() {
        GaugeWeekend x = t.chain("promise 19: each once", 2, 1);
        x.shop(0, 9);
        x.shop(1, 9);
        x.shop(2, 9);
        x.car(0, 0);
        t.due("one car, many hours and shops", x.pushed(120), 1);
        x.car(2, 0);
        t.due("two cars", x.pushed(120), 2);
    }

    private static void promise19NoMoreThanItsPushers() {
        for (int pushers = 0; pushers <= 9; pushers++) {
            GaugeWeekend x = t.alikeCars("promise 19: in no HOUR and SHOP more than its " + pushers + " pushers", 20);
            x.shop(0, pushers);
            t.due("in one hour", x.pushed(1), pushers);
            t.due("in two hours", x.pushed(2), 2 * pushers);
            t.due("in three hours", x.pushed(3), Math.min(3 * pushers, 20));
            x.line(0, 1, 1, 1, true);
            x.shop(1, 9 - pushers);
            t.due("in the other shop from hour 1 on", x.pushed(2), Math.min(9 + pushers, 20));
            t.due("not in it in hour 0", x.pushed(1), pushers);
            t.due("in both", x.pushed(3), Math.min(18 + pushers, 20));
        }
    }

    private static void promise19WithoutPushers() {
        GaugeWeekend x = t.alikeCars("promise 19: without CARS, without SHOPS", 0);
        x.shop(0, 9);
        t.dueTaken(x, "without cars", x.pushed(120), 0);
        x = t.alikeCars("promise 19: without CARS, without SHOPS", 2);
        t.dueTaken(x, "without shops", x.pushed(120), 0);
        t.dueHas(x, 0, 0);
        x.shop(1, 9);
        t.dueTaken(x, "a shop to which none comes", x.pushed(120), 0);
        x.shop(0, 1);
        t.dueTaken(x, "one", x.pushed(1), 1);
        x.shop(0, 0);
        t.dueTaken(x, "none again", x.pushed(1), 0);
        t.dueHas(x, 0, 0);
    }

    private static void promise19CarsInOrder() {
        GaugeWeekend x = t.fresh("promise 19: CARS in order, one that came into the set stays in it");
        x.shop(0, 1);
        x.car(0, 2);
        x.car(0, 2);
        x.car(0, 1);
        x.car(0, 0);
        x.car(0, 0);
        t.due("by 3", x.pushed(3), 3);
        t.dueHas(x, 1, 0, 1, 1, 0);
        t.due("by 2", x.pushed(2), 2);
        t.dueHas(x, 0, 0, 1, 1, 0);
        t.due("by 4", x.pushed(4), 4);
        t.dueHas(x, 1, 1, 1, 1, 0);
        t.due("by 5", x.pushed(5), 5);
        t.dueHas(x, 1, 1, 1, 1, 1);
    }

    /** The cars ahead must leave their first shop or hour to those behind. */
    private static void promise19AllInItCanStill() {
        GaugeWeekend x = t.fresh("promise 19: if all in it then can still be pushed");
        x.line(0, 1, 1, 1, true);
        x.shop(0, 1);
        x.shop(1, 1);
        x.car(0, 0);
        x.car(0, 1);
        t.due("the first goes to shop 1 or is pushed in hour 0", x.pushed(2), 2);
        x.car(0, 0);
        t.due("0 to hour 0 or shop 1, the others", x.pushed(2), 3);
        x.car(1, 1);
        t.due("one too many", x.pushed(2), 3);
        t.dueHas(x, 1, 1, 1, 0);
        t.due("an hour more", x.pushed(3), 4);
        t.dueHas(x, 1, 1, 1, 1);
        Checks.order(x, "line 0 at 0 with 1");
        t.due("shop 1 is cut off", x.pushed(2), 3);
        t.dueHas(x, 1, 1, 0, 1);
    }

    private static void promise19AsManyAsCanBe() {
        GaugeWeekend x = t.fresh("promise 19: How many: as many as can be");
        for (int i = 0; i < 5; i++) {
            x.line(i, i + 1, 1, 1, true);
            x.shop(i, 1);
        }
        x.shop(5, 1);
        // by hour 1 each can be pushed at home alone; by hour 2 in the next place too
        for (int i = 5; i >= 0; i--) {
            x.car(i, 0);
            x.car(i, 0);
        }
        t.due("by 1", x.pushed(1), 6);
        t.dueHas(x, 1, 0, 1, 0, 1, 0, 1, 0, 1, 0, 1, 0);
        t.due("by 2", x.pushed(2), 12);
        Checks.order(x, "line 0 at 0 with 1; line 1 at 0 with 1; line 2 at 0 with 1; line 3 at 0 with 1; line 4 at 0 with 1");
        t.due("by 2, at home", x.pushed(2), 12);
        x.shop(5, 0);
        t.due("by 2, one shop less", x.pushed(2), 10);
        Checks.order(x, "");
        t.due("by 2, over the lines", x.pushed(2), 10);
        t.due("by 3, over the lines", x.pushed(3), 12);
    }

    private static void promise19ThirtyCars() {
        GaugeWeekend x = t.alikeCars("promise 19: 30 CARS", 30);
        x.shop(0, 1);
        t.due("by 29", x.pushed(29), 29);
        t.due("the last is out", x.has(29), 0);
        t.due("the last but one is in", x.has(28), 1);
        t.due("by 30", x.pushed(30), 30);
        t.due("the last is in", x.has(29), 1);
        t.due("by 31", x.pushed(31), 30);
        t.due("by 120", x.pushed(120), 30);
        x = t.fresh("promise 19: 30 CARS, each an hour later");
        x.shop(0, 1);
        for (int i = 0; i < 30; i++) {
            x.car(0, 119 - i);
        }
        t.due("each in its own hour", x.pushed(120), 30);
        t.due("the first of them is too late", x.pushed(119), 29);
        t.dueHas(x, 0, 1);
        t.due("by 91", x.pushed(91), 1);
        t.due("by 90", x.pushed(90), 0);
    }

    /** Shops in odd places, cars in even ones: the last cars can come to one shop alone. */
    private static void promise19ThirtyCarsInALongChain() {
        for (int pushers = 1; pushers <= 3; pushers++) {
            GaugeWeekend x = t.chain("promise 19: CARS, all of which have to move on, " + pushers + " pushers", 15, 1);
            for (int place = 14; place >= 0; place -= 2) {
                x.shop(place + 1, pushers);
                for (int i = 0; i < pushers; i++) {
                    x.car(place, 0);
                }
            }
            t.due("by 1", x.pushed(1), 0);
            t.due("by 2", x.pushed(2), 8 * pushers);
            x.car(0, 0);
            x.car(14, 0);
            t.due("two more are two too many", x.pushed(2), 8 * pushers);
            t.due("has", x.has(8 * pushers), 0);
            t.due("has", x.has(8 * pushers + 1), 0);
            t.due("but not by 3", x.pushed(3), 8 * pushers + 2);
            x.shop(15, pushers - 1);
            t.due("a pusher less", x.pushed(2), 8 * pushers - 1);
            t.due("the last to come into the set is out", x.has(8 * pushers - 1), 0);
        }
    }

    private static void promise19OverOldLines() {
        GaugeWeekend x = t.chain("promise 19: if it can have come there by then over OLD LINES", 2, 3);
        x.shop(2, 9);
        x.car(0, 0);
        x.car(0, 1);
        Checks.order(x, "line 1 at 6 with 1");
        t.due("comes in 6: not ahead of 6", x.pushed(6), 0);
        t.due("in hour 6, while the line is shut", x.pushed(7), 1);
        t.dueHas(x, 1, 0);
        t.due("and ever after", x.pushed(120), 1);
        Checks.order(x, "line 1 at 5 with 1");
        t.due("shut ahead of it", x.pushed(120), 0);
        Checks.order(x, "line 1 at 7 with 1");
        t.due("both in time", x.pushed(120), 2);
        t.due("the second in hour 7", x.pushed(7), 1);
    }

    private static void promise19RefusedLatestStays() {
        GaugeWeekend x = t.alikeCars("promise 19: kept as the latest; a refused one is not", 2);
        x.shop(0, 1);
        t.due("pushed", x.pushed(1), 1);
        t.dueRefused(x, "pushed(121)", x.pushed(121), BAD_NUMBER);
        t.dueHas(x, 1, 0);
        t.dueRefused(x, "pushed(-1)", x.pushed(-1), BAD_NUMBER);
        t.dueHas(x, 1, 0);
        t.dueTaken(x, "pushed(0)", x.pushed(0), 0);
        t.dueHas(x, 0, 0);
        t.dueRefused(x, "pushed(MOST)", x.pushed(MOST), BAD_NUMBER);
        t.dueHas(x, 0, 0);
        t.dueTaken(x, "pushed(2)", x.pushed(2), 2);
        t.dueHas(x, 1, 1);
    }

    private static void promise20WhichCar() {
        GaugeWeekend x = t.alikeCars("promise 20: CARS that there are", 29);
        x.shop(0, 9);
        // the document leaves room here: there is no latest PUSHED that it could be in
        t.due("has(0) ahead of any", x.has(0), NONE);
        x.pushed(121);
        t.due("has(0) behind a refused one", x.has(0), NONE);
        x.pushed(120);
        t.due("the first", x.has(0), 1);
        t.due("the last", x.has(28), 1);
        int[] wrong = {LEAST, -29, -1, 29, 30, 31, 256, 65536, MOST};
        for (int car : wrong) {
            t.due("has(" + car + ")", x.has(car), NONE);
        }
        x.car(0, 0);
        t.due("told later: not in the latest", x.has(29), 0);
        t.due("no car 30", x.has(30), NONE);
        x.pushed(120);
        t.due("in it now", x.has(29), 1);
        t.due("no car 30", x.has(30), NONE);
    }

    private static void promise20TheLatest() {
        GaugeWeekend x = t.alikeCars("promise 20: in the latest PUSHED, as it was found", 2);
        x.line(0, 1, 1, 1, true);
        x.shop(0, 1);
        x.pushed(1);
        t.dueHas(x, 1, 0);
        x.shop(0, 0);
        x.shop(1, 9);
        Checks.order(x, "line 0 at 0 with 1");
        x.comes(1, 0);
        x.way(0, 0, false, 1);
        t.dueHas(x, 1, 0);
        x.shop(0, 2);
        t.dueHas(x, 1, 0);
        x.pushed(1);
        t.dueHas(x, 1, 1);
    }
}
