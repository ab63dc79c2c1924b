/** Promises 14 and 15 at the edges that Term III names: hours, trains, transfers, alike ways, the latest. */
public final class WaysEdgesTest {
    private static final int LEAST = Checks.LEAST;
    private static final int MOST = Checks.MOST;
    private static final int NONE = Checks.NONE;
    private static final int NO_WAY = Checks.NO_WAY;
    private static final Checks t = new Checks();

    public static void main(String[] args) {
        promise14WrongNumbers();
        promise14NumbersAheadOfNoWay();
        promise14ThereAlready();
        promise14ByHour120();
        promise14TransferByHour120();
        promise14OldUpToTheHourAhead();
        promise14OldAtBothEndsOfTheHours();
        promise14NewFromDoneOn();
        promise14NewAtTheLastHour();
        promise14TrainsPassTheirOwnLinesAlone();
        promise14TransferHours();
        promise14TransferInEachPlace();
        promise14Waits();
        promise14SoonestAheadOfFewest();
        promise14FewestSteps();
        promise14TransferIsAStep();
        promise14FirstAsRows();
        promise14RowsOfNumbers();
        promise14SlowerLineThatIsSoonEnough();
        promise14SlowerLineThatIsTooLate();
        promise14SlowerLineBehindTransfer();
        promise14RefusedLatestStays();
        promise15WhichStep();
        promise15ThirtySteps();
        promise15LatestAsItWasFound();
        t.close();
    }

    private static void promise14WrongNumbers() {
        GaugeWeekend x = t.chain("promise 14: -1 (PLACES 0 .. 15, HOUR 0 .. 120)", 15, 1);
        int[] places = {LEAST, -16, -1, 16, 17, 32, 256, 65536, MOST};
        for (int place : places) {
            t.dueRefused(x, "from " + place, x.way(place, 0, false, 0), Checks.BAD_NUMBER);
            t.dueRefused(x, "to " + place, x.way(0, 0, true, place), Checks.BAD_NUMBER);
            t.dueRefused(x, "from and to " + place, x.way(place, 0, false, place), Checks.BAD_NUMBER);
        }
        int[] hours = {LEAST, -120, -1, 121, 122, 256, 65536, MOST};
        for (int hour : hours) {
            t.dueRefused(x, "old in " + hour, x.way(0, hour, false, 0), Checks.BAD_NUMBER);
            t.dueRefused(x, "new in " + hour, x.way(0, hour, true, 1), Checks.BAD_NUMBER);
        }
        t.dueTaken(x, "from the first to the last", x.way(0, 0, false, 15), 15);
        t.dueTaken(x, "from the last to the first", x.way(15, 105, false, 0), 120);
    }

    private static void promise14NumbersAheadOfNoWay() {
        GaugeWeekend x = t.fresh("promise 14: -1 ahead of -6");
        t.dueRefused(x, "none", x.way(0, 0, false, 1), NO_WAY);
        t.dueRefused(x, "hour", x.way(0, 121, false, 1), Checks.BAD_NUMBER);
        t.dueRefused(x, "place", x.way(0, 0, false, 16), Checks.BAD_NUMBER);
        t.dueRefused(x, "none", x.way(0, 120, true, 15), NO_WAY);
        t.dueTaken(x, "there already", x.way(15, 0, true, 15), 0);
    }

    private static void promise14ThereAlready() {
        GaugeWeekend x = t.chain("promise 14: from a PLACE to itself", 1, 1);
        for (int place = 0; place <= 15; place += 5) {
            for (int hour = 0; hour <= 120; hour += 40) {
                t.dueTaken(x, "old", x.way(place, hour, false, place), hour);
                t.dueSteps(x);
                t.dueTaken(x, "new", x.way(place, hour, true, place), hour);
                t.dueSteps(x);
            }
        }
    }

    private static void promise14ByHour120() {
        for (int hours = 1; hours <= 12; hours++) {
            GaugeWeekend x = t.chain("promise 14: by HOUR 120 at the latest, lines of " + hours, 2, hours);
            t.dueTaken(x, "one line", x.way(0, 120 - hours, false, 1), 120);
            t.dueSteps(x, 0);
            t.dueRefused(x, "one line, an hour later", x.way(1, 121 - hours, false, 2), NO_WAY);
            t.dueTaken(x, "two lines", x.way(2, 120 - 2 * hours, false, 0), 120);
            t.dueSteps(x, 1, 0);
            t.dueRefused(x, "two lines, an hour later", x.way(2, 121 - 2 * hours, false, 0), NO_WAY);
            t.dueRefused(x, "in the last hour", x.way(0, 120, false, 1), NO_WAY);
            t.dueSteps(x, 1, 0);
        }
    }

    private static void promise14TransferByHour120() {
        for (int transfer = 0; transfer <= 12; transfer++) {
            GaugeWeekend x = t.chain("promise 14: by HOUR 120, with a TRANSFER of " + transfer, 1, 1);
            x.transfer(transfer);
            t.dueTaken(x, "way", x.way(0, 119 - transfer, true, 1), 120);
            t.dueSteps(x, 30, 0);
            t.dueRefused(x, "an hour later", x.way(0, 120 - transfer, true, 1), NO_WAY);
            t.dueRefused(x, "in the last hour", x.way(1, 120, true, 0), NO_WAY);
            t.dueSteps(x, 30, 0);
        }
    }

    private static void promise14OldUpToTheHourAhead() {
        for (int hours = 1; hours <= 12; hours++) {
            GaugeWeekend x = t.chain("promise 14: OLD up to the HOUR ahead of that in which it comes, " + hours, 1, hours);
            Checks.order(x, "line 0 at 50 with 1");
            t.dueTaken(x, "comes as it is shut", x.way(0, 50 - hours, false, 1), 50);
            t.dueSteps(x, 0);
            t.dueTaken(x, "back", x.way(1, 50 - hours, false, 0), 50);
            t.dueTaken(x, "an hour sooner", x.way(0, 49 - hours, false, 1), 49);
            t.dueTaken(x, "an hour too late", x.way(0, 51 - hours, false, 1), 53 + hours);
            t.dueSteps(x, 30, 0);
            t.dueTaken(x, "begun while it is shut", x.way(0, 50, false, 1), 53 + hours);
            t.dueTaken(x, "begun while it is new", x.way(0, 60, false, 1), 63 + hours);
            t.dueSteps(x, 30, 0);
        }
    }

    private static void promise14OldAtBothEndsOfTheHours() {
        GaugeWeekend x = t.chain("promise 14: old trains, BEGINS about the train's hours and about HOUR 120", 1, 4);
        x.transfer(12);
        Checks.order(x, "line 0 at 4 with 99");
        t.due("begins in 4", x.way(0, 0, false, 1), 4);
        Checks.order(x, "line 0 at 3 with 99");
        t.due("begins in 3", x.way(0, 0, false, 1), 16);
        Checks.order(x, "line 0 at 0 with 99");
        t.due("begins in 0", x.way(0, 0, false, 1), 16);
        x = t.fresh("promise 14: old trains, BEGINS about HOUR 120");
        x.line(0, 1, 80, 1, true);
        x.line(1, 2, 1, 4, true);
        Checks.order(x, "line 0 at 100 with 1; line 1 after 0 with 1");
        t.due("begins in 120", x.way(1, 116, false, 2), 120);
        t.due("begins in 120, too late", x.way(1, 117, false, 2), NO_WAY);
        x.rates(20, 1);
        Checks.order(x, "line 0 at 100 with 1; line 1 after 0 and 15 with 1");
        t.due("begins in 119", x.way(1, 115, false, 2), 119);
        t.due("begins in 119, too late", x.way(1, 116, false, 2), NO_WAY);
        Checks.order(x, "line 0 at 100 with 1; line 1 after 0 and 99 with 1");
        t.due("begins in 203", x.way(1, 116, false, 2), 120);
    }

    private static void promise14NewFromDoneOn() {
        GaugeWeekend x = t.chain("promise 14: leaving in an HOUR in which it is NEW", 1, 5);
        Checks.order(x, "line 0 at 20 with 1");
        t.dueTaken(x, "done in 23: an hour behind", x.way(0, 24, true, 1), 29);
        t.dueTaken(x, "leaves in it", x.way(0, 23, true, 1), 28);
        t.dueTaken(x, "waits an hour", x.way(0, 22, true, 1), 28);
        t.dueTaken(x, "waits while it is shut", x.way(1, 20, true, 0), 28);
        t.dueSteps(x, 0);
        t.dueTaken(x, "waits while it is old, sooner than with transfers", x.way(0, 16, true, 1), 28);
        t.dueSteps(x, 0);
        t.dueTaken(x, "old one in time", x.way(0, 12, true, 1), 20);
        t.dueSteps(x, 30, 0);
        t.dueTaken(x, "old one just too late", x.way(0, 13, true, 1), 28);
        t.dueSteps(x, 0);
        Checks.order(x, "line 0 at 0 with 99");
        t.dueTaken(x, "done in 1", x.way(0, 0, true, 1), 6);
        t.dueTaken(x, "done in 1", x.way(0, 1, true, 1), 6);
    }

    private static void promise14NewAtTheLastHour() {
        GaugeWeekend x = t.fresh("promise 14: new trains, DONE about HOUR 120");
        x.line(0, 1, 19, 1, true);
        x.line(0, 2, 20, 1, true);
        x.line(0, 3, 18, 2, true);
        x.line(0, 4, 19, 2, true);
        x.line(0, 5, 200, 1, true);
        x.rates(1, 1);
        Checks.order(x, "line 0 at 100 with 1; line 1 at 100 with 1; line 2 at 100 with 1; line 3 at 100 with 1; line 4 at 100 with 1");
        t.due("done in 119, an hour", x.way(0, 100, true, 1), 120);
        t.due("done in 120, an hour", x.way(0, 100, true, 2), NO_WAY);
        t.due("done in 118, two hours", x.way(0, 100, true, 3), 120);
        t.due("done in 119, two hours", x.way(0, 100, true, 4), NO_WAY);
        t.due("done in 300", x.way(0, 100, true, 5), NO_WAY);
        t.due("done in 119, begun in it", x.way(0, 119, true, 1), 120);
        t.due("done in 119, begun behind", x.way(0, 120, true, 1), NO_WAY);
    }

    private static void promise14TrainsPassTheirOwnLinesAlone() {
        GaugeWeekend x = t.chain("promise 14: old trains pass OLD lines, new ones NEW", 3, 1);
        x.transfer(12);
        Checks.order(x, "line 1 at 10 with 99");
        t.due("old, new, old", x.way(0, 20, false, 3), 47);
        t.dueSteps(x, 0, 30, 1, 30, 2);
        t.due("begun on a new one", x.way(0, 20, true, 3), 59);
        t.dueSteps(x, 30, 0, 30, 1, 30, 2);
        t.due("begun ahead of it", x.way(0, 8, false, 3), 11);
        t.due("new, and stays on it", x.way(1, 20, true, 2), 21);
        t.dueSteps(x, 1);
        t.due("no further", x.way(1, 108, true, 3), NO_WAY);
        t.due("just there", x.way(1, 106, true, 3), 120);
    }

    private static void promise14TransferHours() {
        for (int transfer = 0; transfer <= 12; transfer++) {
            GaugeWeekend x = t.chain("promise 14: changed to the other sort in TRANSFER HOURS, " + transfer, 2, 2);
            x.transfer(transfer);
            Checks.order(x, "line 1 at 0 with 99");
            t.due("old to new", x.way(0, 5, false, 2), 9 + transfer);
            t.dueSteps(x, 0, 30, 1);
            t.due("new to old", x.way(2, 5, true, 0), 9 + transfer);
            t.dueSteps(x, 1, 30, 0);
            t.due("two of them", x.way(2, 5, false, 0), 9 + 2 * transfer);
            t.dueSteps(x, 30, 1, 30, 0);
            t.due("none in the place to which they go", x.way(0, 5, false, 1), 7);
            t.dueSteps(x, 0);
        }
    }

    private static void promise14TransferInEachPlace() {
        for (int place = 0; place <= 15; place++) {
            int ahead = (place + 1) % 16;
            int behind = (place + 2) % 16;
            GaugeWeekend x = t.fresh("promise 14: in a PLACE goods may be changed, " + place);
            x.line(ahead, place, 1, 1, true);
            x.line(place, behind, 1, 1, true);
            Checks.order(x, "line 1 at 0 with 1");
            t.due("old to new", x.way(ahead, 1, false, behind), 6);
            t.dueSteps(x, 0, 30, 1);
            t.due("new to old", x.way(behind, 1, true, ahead), 6);
            t.dueSteps(x, 1, 30, 0);
            t.due("at the beginning", x.way(place, 1, false, behind), 5);
            t.dueSteps(x, 30, 1);
        }
    }

    private static void promise14Waits() {
        GaugeWeekend x = t.fresh("promise 14: in a PLACE goods may wait");
        x.line(0, 1, 160, 1, true);
        x.line(1, 2, 200, 1, true);
        Checks.order(x, "line 0 at 0 with 1; line 1 at 10 with 1");
        t.due("in the first place and on the way", x.way(0, 0, true, 2), 61);
        t.dueSteps(x, 0, 1);
        t.due("and then no more", x.way(0, 60, true, 2), 62);
        t.due("changed while they wait", x.way(0, 30, false, 2), 61);
        t.dueSteps(x, 30, 0, 1);
    }

    private static void promise14SoonestAheadOfFewest() {
        GaugeWeekend x = t.fresh("promise 14: by which they come there first, however many steps");
        x.line(0, 3, 4, 4, true);
        x.line(0, 1, 4, 1, true);
        x.line(1, 2, 4, 1, true);
        x.line(2, 3, 4, 1, true);
        t.due("an hour sooner", x.way(0, 0, false, 3), 3);
        t.dueSteps(x, 1, 2, 3);
        x = t.fresh("promise 14: by which they come there first, though its number is larger");
        x.line(0, 1, 4, 3, true);
        x.line(0, 1, 4, 2, true);
        t.due("an hour sooner", x.way(0, 0, false, 1), 2);
        t.dueSteps(x, 1);
    }

    private static void promise14FewestSteps() {
        GaugeWeekend x = t.fresh("promise 14: of alike ones that of the fewest steps");
        x.line(0, 1, 4, 1, true);
        x.line(1, 2, 4, 1, true);
        x.line(2, 3, 4, 1, true);
        x.line(1, 3, 4, 2, true);
        x.line(0, 3, 4, 3, true);
        t.due("three, two or one", x.way(0, 0, false, 3), 3);
        t.dueSteps(x, 4);
        t.due("back", x.way(3, 0, false, 0), 3);
        t.dueSteps(x, 4);
        x = t.fresh("promise 14: fewest steps, to a place in which they wait");
        x.line(0, 1, 4, 1, true);
        x.line(1, 2, 4, 1, true);
        x.line(2, 3, 40, 1, true);
        x.line(0, 2, 4, 12, true);
        Checks.order(x, "line 0 at 0 with 4; line 1 at 0 with 4; line 2 at 3 with 1; line 3 at 0 with 4");
        t.due("the slower one comes as it is done", x.way(0, 1, true, 3), 14);
        t.dueSteps(x, 3, 2);
        t.due("and an hour too late", x.way(0, 2, true, 3), 14);
        t.dueSteps(x, 0, 1, 2);
    }

    private static void promise14TransferIsAStep() {
        GaugeWeekend x = t.fresh("promise 14: each step a LINE or a TRANSFER");
        x.line(0, 1, 4, 1, true);
        x.line(1, 2, 4, 1, true);
        x.line(1, 3, 4, 1, true);
        x.line(3, 2, 4, 1, true);
        x.transfer(1);
        Checks.order(x, "line 1 at 0 with 4");
        t.due("one transfer, as long as another line", x.way(0, 1, false, 2), 4);
        t.dueSteps(x, 0, 2, 3);
        x.transfer(0);
        t.due("none at all", x.way(0, 1, false, 2), 3);
        t.dueSteps(x, 0, 30, 1);
        x.transfer(2);
        t.due("two hours", x.way(0, 1, false, 2), 4);
        t.dueSteps(x, 0, 2, 3);
    }

    private static void promise14FirstAsRows() {
        GaugeWeekend x = t.fresh("promise 14: of these the first as rows");
        x.line(1, 3, 4, 1, true);
        x.line(2, 3, 4, 1, true);
        x.line(0, 2, 4, 1, true);
        x.line(0, 1, 4, 1, true);
        x.line(3, 2, 4, 1, true);
        x.line(0, 2, 4, 1, true);
        t.due("the first number tells", x.way(0, 0, false, 3), 2);
        t.dueSteps(x, 2, 1);
        t.due("back", x.way(3, 0, false, 0), 2);
        t.dueSteps(x, 0, 3);
        x = t.fresh("promise 14: first as rows, lines 29 and TRANSFER 30");
        for (int i = 0; i < 28; i++) {
            x.line(14, 15, 1, 1, true);
        }
        x.line(0, 1, 4, 1, true);
        x.line(1, 2, 4, 1, true);
        x.transfer(0);
        Checks.order(x, "line 28 at 50 with 1");
        t.due("transfer is behind line 29", x.way(2, 60, false, 0), 62);
        t.dueSteps(x, 29, 30, 28);
        t.due("and must be first, where line 29 is old", x.way(0, 60, true, 2), 62);
        t.dueSteps(x, 28, 30, 29);
        x = t.fresh("promise 14: first as rows, LINE ahead of TRANSFER");
        x.line(2, 3, 4, 1, true);
        for (int i = 1; i < 29; i++) {
            x.line(14, 15, 1, 1, true);
        }
        x.line(0, 2, 4, 1, true);
        x.transfer(0);
        Checks.order(x, "line 0 at 50 with 1; line 29 at 0 with 99");
        t.due("29, 0 on new ones", x.way(0, 60, true, 3), 62);
        t.dueSteps(x, 29, 0);
        t.due("30 has to be somewhere: first", x.way(0, 60, false, 3), 62);
        t.dueSteps(x, 30, 29, 0);
    }

    private static void promise14RowsOfNumbers() {
        GaugeWeekend x = t.fresh("promise 14: rows of numbers, not of signs");
        for (int i = 0; i < 30; i++) {
            boolean isOne = i == 2 || i == 9 || i == 10 || i == 11 || i == 29;
            x.line(isOne ? 0 : 14, isOne ? 1 : 15, 1, 1, true);
        }
        t.due("2 is ahead of 10", x.way(0, 0, false, 1), 1);
        t.dueSteps(x, 2);
        Checks.order(x, "line 2 at 0 with 1");
        t.due("9 is ahead of 10", x.way(1, 1, false, 0), 2);
        t.dueSteps(x, 9);
        Checks.order(x, "line 2 at 0 with 1; line 9 at 0 with 1");
        t.due("10 is ahead of 29", x.way(1, 1, false, 0), 2);
        t.dueSteps(x, 10);
        t.due("2 of the new ones", x.way(1, 1, true, 0), 2);
        t.dueSteps(x, 2);
    }

    /** They wait for line 2 all the same. */
    private static void promise14SlowerLineThatIsSoonEnough() {
        GaugeWeekend x = t.fresh("promise 14: first as rows, though a step takes longer");
        x.line(0, 1, 4, 12, true);
        x.line(0, 1, 4, 1, true);
        x.line(1, 2, 40, 1, true);
        Checks.order(x, "line 0 at 0 with 9; line 1 at 0 with 9; line 2 at 3 with 1");
        t.due("comes as 2 is done", x.way(0, 1, true, 2), 14);
        t.dueSteps(x, 0, 2);
        t.due("comes an hour behind", x.way(0, 2, true, 2), 14);
        t.dueSteps(x, 1, 2);
    }

    private static void promise14SlowerLineThatIsTooLate() {
        GaugeWeekend x = t.fresh("promise 14: first as rows, up to the last old train");
        x.line(0, 1, 4, 12, true);
        x.line(0, 1, 4, 1, true);
        x.line(1, 2, 40, 1, true);
        x.line(2, 3, 80, 1, true);
        Checks.order(x, "line 3 at 3 with 1; line 2 at 20 with 9");
        x.transfer(0);
        t.due("comes an hour ahead of 20", x.way(0, 7, false, 3), 24);
        t.dueSteps(x, 0, 2, 30, 3);
        t.due("comes in 20: 2 is shut", x.way(0, 8, false, 3), 24);
        t.dueSteps(x, 0, 30, 2, 3);
        Checks.order(x, "line 3 at 3 with 1; line 2 at 20 with 1");
        t.due("and not done in time", x.way(0, 8, false, 3), 24);
        t.dueSteps(x, 1, 2, 30, 3);
    }

    private static void promise14SlowerLineBehindTransfer() {
        GaugeWeekend x = t.fresh("promise 14: first as rows, behind a TRANSFER");
        x.line(0, 1, 4, 10, true);
        x.line(0, 1, 4, 1, true);
        x.line(1, 2, 48, 1, true);
        Checks.order(x, "line 0 at 0 with 9; line 1 at 0 with 9; line 2 at 2 with 1");
        t.due("comes as 2 is done", x.way(0, 1, false, 2), 15);
        t.dueSteps(x, 30, 0, 2);
        x.transfer(4);
        t.due("would come an hour behind", x.way(0, 1, false, 2), 15);
        t.dueSteps(x, 30, 1, 2);
        x.transfer(12);
        t.due("the quick one comes as it is done", x.way(0, 1, false, 2), 15);
        t.dueSteps(x, 30, 1, 2);
    }

    private static void promise14RefusedLatestStays() {
        GaugeWeekend x = t.chain("promise 14: -6 there is none (the latest stays); so it does with -1", 3, 2);
        t.due("way", x.way(0, 0, false, 3), 6);
        t.dueRefused(x, "none", x.way(0, 0, false, 15), NO_WAY);
        t.dueSteps(x, 0, 1, 2);
        t.dueRefused(x, "too late", x.way(3, 119, false, 2), NO_WAY);
        t.dueSteps(x, 0, 1, 2);
        t.dueRefused(x, "place", x.way(-1, 0, false, 2), Checks.BAD_NUMBER);
        t.dueSteps(x, 0, 1, 2);
        t.dueRefused(x, "hour", x.way(2, 121, false, 2), Checks.BAD_NUMBER);
        t.dueSteps(x, 0, 1, 2);
        t.dueTaken(x, "a shorter one", x.way(2, 0, false, 1), 2);
        t.dueSteps(x, 1);
        t.dueTaken(x, "one of no steps", x.way(2, 0, false, 2), 0);
        t.dueSteps(x);
        t.dueRefused(x, "none", x.way(0, 0, true, 14), NO_WAY);
        t.dueSteps(x);
        x = t.fresh("promise 14: refused ahead of any");
        x.way(0, 0, false, 1);
        x.way(16, 0, false, 1);
        t.due("no step", x.step(0), NONE);
    }

    private static void promise15WhichStep() {
        GaugeWeekend x = t.chain("promise 15: step i, how many (i -1), NONE", 3, 1);
        int[] wrong = {LEAST, LEAST + 1, -31, -3, -2, 3, 4, 29, 30, 31, 256, 65536, MOST};
        for (int i : wrong) {
            t.due("step(" + i + ") ahead of any", x.step(i), NONE);
        }
        t.due("step(0) ahead of any", x.step(0), NONE);
        // the document leaves room here: there is no latest WAY that could have steps
        t.due("step(-1) ahead of any", x.step(-1), NONE);
        t.due("way", x.way(3, 0, false, 0), 3);
        t.due("how many", x.step(-1), 3);
        t.due("the first", x.step(0), 2);
        t.due("the last", x.step(2), 0);
        for (int i : wrong) {
            t.due("step(" + i + ")", x.step(i), NONE);
        }
        t.due("way", x.way(3, 0, false, 2), 1);
        t.due("how many", x.step(-1), 1);
        t.due("none of the one ahead", x.step(1), NONE);
    }

    private static void promise15ThirtySteps() {
        GaugeWeekend x = t.fresh("promise 15: steps 0 .. 29, a LINE or 30");
        for (int i = 0; i < 15; i++) {
            x.line(i, i + 1, 1, 1, true);
        }
        for (int i = 15; i < 30; i++) {
            x.line(i - 14, i - 15, 1, 1, true);
        }
        x.transfer(0);
        StringBuilder text = new StringBuilder();
        for (int i = 0; i < 15; i += 2) {
            text.append(i == 0 ? "" : ";").append("line").append(i).append("at0with1;line").append(i + 15).append("at0with1");
        }
        t.dueOrders(x, text.toString(), 16);
        t.dueTaken(x, "a transfer in each place", x.way(0, 1, false, 15), 16);
        int[] want = new int[30];
        for (int i = 0; i < 15; i++) {
            want[2 * i] = 30;
            want[2 * i + 1] = i;
        }
        t.dueSteps(x, want);
        t.due("no step 30", x.step(30), NONE);
        t.due("no step 31", x.step(31), NONE);
        t.due("no step 32", x.step(32), NONE);
    }

    private static void promise15LatestAsItWasFound() {
        GaugeWeekend x = t.chain("promise 15: of the latest WAY, as it was found", 2, 1);
        x.way(0, 0, false, 2);
        x.line(0, 2, 1, 1, true);
        x.transfer(12);
        x.rates(1, 1);
        Checks.order(x, "line 0 at 0 with 1; line 1 at 0 with 1; line 2 at 0 with 1");
        x.car(2, 0);
        x.comes(0, 0);
        x.pushed(120);
        t.dueSteps(x, 0, 1);
        t.due("now", x.way(0, 0, false, 2), 13);
        t.dueSteps(x, 30, 2);
    }
}
