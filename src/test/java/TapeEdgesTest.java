/** Promises 6 and 7 at the edges that they name: how many bytes the tape has, and which they are. */
public final class TapeEdgesTest {
    private static final int NONE = Checks.NONE;
    private static final int BLANKS = 0x20202020;
    private static final Checks t = new Checks();

    public static void main(String[] args) {
        promise6HowMany();
        promise6Above400();
        promise6RefusedChangesNothing();
        promise6HighestFirst();
        promise6EachByteOfTheTape();
        promise6NumbersAtBothEndsOfInt();
        promise7HowMany();
        promise7BytesBehindAreGone();
        promises6And7LeaveStatus();
        t.close();
    }

    private static int feedBlanks(GaugeWeekend x) {
        return x.feed(BLANKS, BLANKS, BLANKS, BLANKS, BLANKS);
    }

    private static void promise6HowMany() {
        GaugeWeekend x = t.fresh("promise 6: twenty bytes, how many it has");
        for (int i = 1; i <= 20; i++) {
            t.due("feed", feedBlanks(x), 20 * i);
            t.due("count", x.count(5), 20 * i);
        }
        t.due("the first that has no room", feedBlanks(x), NONE);
        t.due("count", x.count(5), 400);
        t.due("all of them are read", x.orders(), 0);
        t.due("room again", feedBlanks(x), 20);
    }

    private static void promise6Above400() {
        for (int n = 380; n <= 400; n++) {
            GaugeWeekend x = t.fresh("promise 6: NONE, if there would be more than 400, of " + n);
            for (int i = 0; i < 20; i++) {
                feedBlanks(x);
            }
            t.due("end", x.end(n), n);
            t.due("feed", feedBlanks(x), n == 380 ? 400 : NONE);
            t.due("count", x.count(5), n == 380 ? 400 : n);
        }
    }

    private static void promise6RefusedChangesNothing() {
        GaugeWeekend x = t.fresh("promise 6: a refused feed changes nothing");
        for (int i = 0; i < 20; i++) {
            feedBlanks(x);
        }
        x.end(390);
        t.due("no half of it", x.feed(-1, -1, -1, -1, -1), NONE);
        t.due("count", x.count(5), 390);
        t.due("blanks alone still", x.orders(), 0);
        t.due("fault", x.fault(), NONE);
    }

    private static void promise6HighestFirst() {
        for (int i = 0; i < 20; i++) {
            GaugeWeekend x = t.fresh("promise 6: four of each number, the highest first, byte " + i);
            int[] n = {BLANKS, BLANKS, BLANKS, BLANKS, BLANKS};
            n[i / 4] = BLANKS ^ 1 << 24 - 8 * (i % 4);
            feedBlanks(x);
            t.due("feed", x.feed(n[0], n[1], n[2], n[3], n[4]), 40);
            t.due("orders", x.orders(), -6);
            t.due("fault", x.fault(), 20 + i);
        }
    }

    private static void promise6EachByteOfTheTape() {
        for (int place = 0; place < 400; place++) {
            StringBuilder text = new StringBuilder(" ".repeat(400));
            text.setCharAt(place, '!');
            t.dueFault(t.fresh("promise 6: behind the TAPE, byte " + place), text.toString(), place);
        }
    }

    private static void promise6NumbersAtBothEndsOfInt() {
        GaugeWeekend x = t.fresh("promise 6: numbers at both ends of int");
        t.due("feed", x.feed(Checks.LEAST, Checks.MOST, -1, 0, 1), 20);
        t.due("end", x.end(20), 20);
        t.due("orders", x.orders(), -6);
        t.due("fault", x.fault(), 0);
        // 0x20202020 with the highest bit: 160 is no blank
        t.due("feed", x.feed(BLANKS, BLANKS | Checks.LEAST, BLANKS, BLANKS, BLANKS), 20);
        t.due("orders", x.orders(), -6);
        t.due("fault", x.fault(), 4);
    }

    private static void promise7HowMany() {
        GaugeWeekend x = t.fresh("promise 7: its first n bytes, NONE if it has not so many, or n is below 0");
        t.due("none of none", x.end(0), 0);
        t.due("one of none", x.end(1), NONE);
        feedBlanks(x);
        int[] wrong = {Checks.LEAST, -20, -1, 21, 22, 256 + 20, 400, 65536, Checks.MOST};
        for (int n : wrong) {
            t.due("end(" + n + ")", x.end(n), NONE);
            t.due("it stays", x.count(5), 20);
        }
        t.due("all", x.end(20), 20);
        t.due("count", x.count(5), 20);
        t.due("but one", x.end(19), 19);
        t.due("count", x.count(5), 19);
        t.due("no more then", x.end(20), NONE);
        t.due("one", x.end(1), 1);
        t.due("none", x.end(0), 0);
        t.due("count", x.count(5), 0);
        t.due("one of none", x.end(1), NONE);
        for (int i = 0; i < 20; i++) {
            feedBlanks(x);
        }
        t.due("401", x.end(401), NONE);
        t.due("400", x.end(400), 400);
        t.due("399", x.end(399), 399);
        t.due("400", x.end(400), NONE);
    }

    private static void promise7BytesBehindAreGone() {
        GaugeWeekend x = t.chain("promise 7: its first n bytes alone", 1, 1);
        Checks.feedText(x, "line 0 at 1 with 12!");
        t.due("end", x.end(18), 18);
        t.due("the next come behind those", Checks.feedTwenty(x, "3                   ", 0), 38);
        t.due("orders", x.orders(), 1);
        t.due("gangs 13", x.of(0, 2), 13);
        Checks.feedText(x, "line 0 at 1 with 12!");
        x.end(20);
        x.end(21);
        x.end(-1);
        t.due("refused calls cut nothing", x.orders(), -6);
        t.due("fault", x.fault(), 19);
        Checks.feedText(x, "line 0 at 1 with 12!");
        x.end(0);
        t.due("of none", x.orders(), 0);
    }

    private static void promises6And7LeaveStatus() {
        GaugeWeekend x = t.fresh("promises 6, 7 and 25: feed and end are never REFUSED");
        x.gangs(100);
        feedBlanks(x);
        x.end(0);
        t.due("good ones leave it", x.status(), -1);
        x.gangs(9);
        x.end(1);
        for (int i = 0; i < 21; i++) {
            feedBlanks(x);
        }
        t.due("bad ones leave it", x.status(), 0);
    }
}
