import java.util.Arrays;

/**
 * A gauge changed in a few days. What each call promises stands in DOC.md; the words in capitals
 * (HOURS, ORDERS, WAY, PUSHED, SEEN ..) are those of its Terms.
 */
public final class GaugeWeekend {
    public static final int NONE = -1;

    private static final int BAD_NUMBER = -1;
    private static final int NO_SUCH = -2;
    private static final int NO_ROOM = -5;
    private static final int BAD_TEXT = -6;
    private static final int NO_WAY = -6;

    private static final int LAST_HOUR = 120;
    private static final int LAST_KNOWN = 1000;
    /** Later than any HOUR that can be reckoned. */
    private static final int NEVER = 1000000;
    private static final int PLACES = 16;
    private static final int LINES = 30;
    private static final int CARS = 30;
    private static final int MOST_GANGS = 99;

    private static final int OLD = 0;
    private static final int SHUT = 1;
    private static final int NEW = 2;

    private final Railway railway;
    private final Tape tape;
    private final Reader reader;
    private final Ways ways;
    private final Cars cars;
    private final Shops shops;
    private final Wheels wheels;
    private int gangs;
    private int fault;
    private int status;

    public GaugeWeekend() {
        railway = new Railway();
        tape = new Tape();
        reader = new Reader();
        ways = new Ways();
        cars = new Cars();
        shops = new Shops();
        wheels = new Wheels();
        gangs = 20;
        fault = NONE;
        status = 0;
    }

    public int line(int a, int b, int miles, int hours, boolean set) {
        return answered(railway.lines.add(a, b, miles, hours, set));
    }

    public int rates(int set, int other) {
        return answered(railway.changeRates(set, other));
    }

    public int gangs(int many) {
        if (!isWithin(many, 0, MOST_GANGS)) {
            return answered(BAD_NUMBER);
        }
        int before = gangs;
        gangs = many;
        return answered(before);
    }

    public int transfer(int hours) {
        return answered(ways.setTransfer(hours));
    }

    public int feed(int a, int b, int c, int d, int e) {
        if (!tape.hasRoomFor(20)) {
            return NONE;
        }
        tape.append(a);
        tape.append(b);
        tape.append(c);
        tape.append(d);
        tape.append(e);
        return tape.length;
    }

    public int end(int n) {
        return tape.cut(n) ? n : NONE;
    }

    public int orders() {
        boolean good = reader.readOrders(tape, railway.lines, railway.draft);
        fault = good ? NONE : tape.tokenStart;
        tape.cut(0);
        if (!good) {
            return answered(BAD_TEXT);
        }
        railway.takeDraft();
        return answered(railway.plan.many);
    }

    public int fault() {
        return fault;
    }

    public int of(int line, int what) {
        if (!railway.lines.isThere(line)) {
            return NONE;
        }
        switch (what) {
            case 0:
                return railway.plan.beginsOf(line);
            case 1:
                return railway.plan.doneOf(line);
            case 2:
                return railway.plan.gangsOf(line);
            default:
                return NONE;
        }
    }

    public int is(int line, int hour) {
        if (!railway.lines.isThere(line) || !isHour(hour)) {
            return NONE;
        }
        return railway.plan.stateOf(line, hour);
    }

    public int busy(int hour) {
        return isHour(hour) ? railway.plan.busyGangs(hour) : NONE;
    }

    public int lack() {
        for (int hour = 0; hour <= LAST_HOUR; hour++) {
            if (railway.plan.busyGangs(hour) > gangs) {
                return hour;
            }
        }
        return NONE;
    }

    public int way(int from, int hour, boolean isNew, int to) {
        return answered(ways.find(railway, from, hour, isNew, to));
    }

    public int step(int i) {
        return ways.stepOfLatest(i);
    }

    public int shop(int place, int pushers) {
        return answered(shops.setPushers(place, pushers));
    }

    public int car(int place, int hour) {
        return answered(cars.add(place, hour));
    }

    public int comes(int car, int place) {
        return cars.firstHourIn(railway, car, place);
    }

    public int pushed(int hour) {
        return answered(shops.push(railway, cars, hour));
    }

    public int has(int car) {
        return cars.isThere(car) ? shops.isInLatest(car) : NONE;
    }

    public int wheel(int car) {
        return answered(wheels.add(cars, car));
    }

    public int see(int wheel, int car, int hour, int known) {
        return answered(wheels.tell(cars, wheel, car, hour, known));
    }

    public int under(int wheel, int hour, int known) {
        return wheels.carOver(wheel, hour, known);
    }

    public int count(int what) {
        switch (what) {
            case 0:
                return railway.lines.many;
            case 1:
                return railway.plan.many;
            case 2:
                return cars.many;
            case 3:
                return wheels.many;
            case 4:
                return wheels.manySeen;
            case 5:
                return tape.length;
            case 6:
                return railway.plan.allDone();
            default:
                return NONE;
        }
    }

    public int status() {
        return status;
    }

    /** No call that can be refused has a good answer below 0, so the answer tells the status. */
    private int answered(int answer) {
        status = Math.min(answer, 0);
        return answer;
    }

    private static boolean isWithin(int number, int low, int high) {
        return number >= low && number <= high;
    }

    private static boolean isHour(int hour) {
        return isWithin(hour, 0, LAST_HOUR);
    }

    private static boolean isPlace(int place) {
        return isWithin(place, 0, PLACES - 1);
    }

    private static int at(int[] row, int index) {
        return row != null && index >= 0 && index < row.length ? row[index] : NONE;
    }

    private static void put(int[] row, int index, int value) {
        if (row != null && index >= 0 && index < row.length) {
            row[index] = value;
        }
    }

    /** LINES as they were told, and the RATES at which a gang changes them. */
    private static final class Lines {
        private static final int MOST_MILES = 200;
        private static final int MOST_HOURS = 12;
        private static final int MOST_RATE = 20;

        private final int[] oneEnd = new int[LINES];
        private final int[] otherEnd = new int[LINES];
        private final int[] miles = new int[LINES];
        private final int[] hours = new int[LINES];
        private final int[] spikesSet = new int[LINES];
        private int many = 0;
        private int rateOfSet = 4;
        private int rateOfOthers = 2;

        int add(int a, int b, int length, int time, boolean set) {
            if (!isPlace(a) || !isPlace(b) || a == b) {
                return BAD_NUMBER;
            }
            if (!isWithin(length, 1, MOST_MILES) || !isWithin(time, 1, MOST_HOURS)) {
                return BAD_NUMBER;
            }
            if (many >= LINES) {
                return NO_ROOM;
            }
            put(oneEnd, many, a);
            put(otherEnd, many, b);
            put(miles, many, length);
            put(hours, many, time);
            put(spikesSet, many, set ? 1 : 0);
            many++;
            return many - 1;
        }

        int setRates(int set, int other) {
            if (!isWithin(set, 1, MOST_RATE) || !isWithin(other, 1, MOST_RATE)) {
                return BAD_NUMBER;
            }
            rateOfSet = set;
            rateOfOthers = other;
            return 0;
        }

        boolean isThere(int line) {
            return line >= 0 && line < many;
        }

        /** The PLACE to which a LINE leads from a PLACE; NONE, if it does not touch that. */
        int farEnd(int line, int place) {
            if (at(oneEnd, line) == place) {
                return at(otherEnd, line);
            }
            return at(otherEnd, line) == place ? at(oneEnd, line) : NONE;
        }

        int oneEndOf(int line) {
            return at(oneEnd, line);
        }

        int otherEndOf(int line) {
            return at(otherEnd, line);
        }

        int hoursToChange(int line, int gangs) {
            int pace = gangs * (at(spikesSet, line) == 1 ? rateOfSet : rateOfOthers);
            if (pace < 1) {
                return 0;
            }
            return (at(miles, line) + pace - 1) / pace;
        }
    }

    /**
     * ORDERS and the HOURS that follow from them, kept by LINE: a LINE has one ORDER at most. Without
     * one it begins and is done NEVER, so that trains need not ask whether there is one.
     */
    private static final class Plan {
        private final int[] lineOf = new int[LINES];
        private final int[] after = new int[LINES];
        private final int[] hours = new int[LINES];
        private final int[] gangs = new int[LINES];
        private final int[] begins = new int[LINES];
        private final int[] done = new int[LINES];
        private int many = 0;

        Plan() {
            Arrays.fill(begins, NEVER);
            Arrays.fill(done, NEVER);
        }

        void clear() {
            Arrays.fill(gangs, 0);
            Arrays.fill(begins, NEVER);
            Arrays.fill(done, NEVER);
            many = 0;
        }

        /** One ORDER more: at an HOUR (first NONE), or so many HOURS behind the first LINE's end. */
        void add(int line, int first, int hour, int with) {
            put(lineOf, many, line);
            put(after, line, first);
            put(hours, line, hour);
            put(gangs, line, with);
            many++;
        }

        boolean hasOrder(int line) {
            return at(gangs, line) > 0;
        }

        /** One pass is enough, since "after" names a LINE whose ORDER stands ahead. */
        void reckon(Lines lines) {
            for (int i = 0; i < many; i++) {
                int line = at(lineOf, i);
                int first = at(after, line);
                int start = at(hours, line) + (first == NONE ? 0 : at(done, first));
                put(begins, line, start);
                put(done, line, start + lines.hoursToChange(line, at(gangs, line)));
            }
        }

        int beginsOf(int line) {
            return hasOrder(line) ? at(begins, line) : NONE;
        }

        int doneOf(int line) {
            return hasOrder(line) ? at(done, line) : NONE;
        }

        int gangsOf(int line) {
            return at(gangs, line);
        }

        int stateOf(int line, int hour) {
            if (hour < at(begins, line)) {
                return OLD;
            }
            return hour < at(done, line) ? SHUT : NEW;
        }

        int busyGangs(int hour) {
            int busy = 0;
            for (int i = 0; i < many; i++) {
                int line = at(lineOf, i);
                if (stateOf(line, hour) == SHUT) {
                    busy += gangsOf(line);
                }
            }
            return busy;
        }

        int allDone() {
            int last = 0;
            for (int i = 0; i < many; i++) {
                last = Math.max(last, doneOf(at(lineOf, i)));
            }
            return last;
        }
    }

    /** LINES under the ORDERS in force. The draft takes new ORDERS, so that bad ones change nothing. */
    private static final class Railway {
        private final Lines lines = new Lines();
        private Plan plan = new Plan();
        private Plan draft = new Plan();

        int changeRates(int set, int other) {
            int answer = lines.setRates(set, other);
            plan.reckon(lines);
            return answer;
        }

        /** The old Plan serves as the next draft, so that no call makes an object. */
        void takeDraft() {
            Plan before = plan;
            plan = draft;
            draft = before;
            plan.reckon(lines);
        }

        /** The first HOUR in which a train that may leave from an HOUR on has passed a LINE; NEVER. */
        int arrival(int line, boolean isNew, int hour) {
            int leaves = isNew ? Math.max(hour, at(plan.done, line)) : hour;
            int comes = leaves + at(lines.hours, line);
            int last = isNew ? LAST_HOUR : Math.min(LAST_HOUR, at(plan.begins, line));
            return comes > last ? NEVER : comes;
        }

        /** The last HOUR to which a train may wait, to have passed a LINE by an HOUR; NONE. */
        int departure(int line, boolean isNew, int by) {
            int opens = isNew ? at(plan.done, line) : 0;
            int comes = isNew ? by : Math.min(by, at(plan.begins, line));
            int leaves = comes - at(lines.hours, line);
            return leaves < opens ? NONE : leaves;
        }
    }

    /** The TAPE's bytes, and the TOKEN at which a reader of it stands. */
    private static final class Tape {
        private static final int ROOM = 400;
        private static final int MOST_NUMBER = 1000;
        private static final int BLANK = 0;
        private static final int LETTER = 1;
        private static final int DIGIT = 2;
        private static final int SIGN = 3;

        private final int[] bytes = new int[ROOM];
        private int length = 0;
        private int tokenStart = 0;
        private int tokenEnd = 0;

        boolean hasRoomFor(int more) {
            return length + more <= ROOM;
        }

        void append(int number) {
            for (int shift = 24; shift >= 0; shift -= 8) {
                put(bytes, length, (number >>> shift) & 255);
                length++;
            }
        }

        boolean cut(int n) {
            if (n < 0 || n > length) {
                return false;
            }
            length = n;
            return true;
        }

        void rewind() {
            tokenEnd = 0;
            next();
        }

        /** Goes to the next TOKEN; behind the last one that is an empty one at the TEXT's length. */
        void next() {
            tokenStart = tokenEnd;
            while (tokenStart < length && sortOf(at(bytes, tokenStart)) == BLANK) {
                tokenStart++;
            }
            tokenEnd = Math.min(tokenStart + 1, length);
            int sort = sortOf(at(bytes, tokenStart));
            while (sort != SIGN && tokenEnd < length && sortOf(at(bytes, tokenEnd)) == sort) {
                tokenEnd++;
            }
        }

        boolean isAtEnd() {
            return tokenStart >= length;
        }

        boolean isAtWord(String word) {
            int size = tokenEnd - tokenStart;
            if (size != word.length()) {
                return false;
            }
            for (int i = 0; i < size && i < word.length(); i++) {
                if (at(bytes, tokenStart + i) != word.charAt(i)) {
                    return false;
                }
            }
            return true;
        }

        boolean take(String word) {
            if (!isAtWord(word)) {
                return false;
            }
            next();
            return true;
        }

        /** The value of the TOKEN, as far as it can matter; NONE, if it is no row of digits. */
        int number() {
            if (isAtEnd() || sortOf(at(bytes, tokenStart)) != DIGIT) {
                return NONE;
            }
            int value = 0;
            for (int i = tokenStart; i < tokenEnd; i++) {
                value = Math.min(value * 10 + at(bytes, i) - '0', MOST_NUMBER);
            }
            return value;
        }

        /** Takes a number of these bounds; NONE, if none is there: then the TOKEN stays. */
        int takeNumber(int low, int high) {
            int value = number();
            if (!isWithin(value, low, high)) {
                return NONE;
            }
            next();
            return value;
        }

        private static int sortOf(int sign) {
            if (sign == ' ') {
                return BLANK;
            }
            if (sign >= 'a' && sign <= 'z') {
                return LETTER;
            }
            return sign >= '0' && sign <= '9' ? DIGIT : SIGN;
        }
    }

    /** Reads ORDERS. What answers false leaves the TAPE at the TOKEN that can't go on there. */
    private static final class Reader {
        private static final int LAST_AT = 100;
        private static final int MOST_NUMBER = 99;

        private int line = 0;
        private int after = NONE;
        private int hours = 0;
        private int gangs = 0;

        boolean readOrders(Tape tape, Lines lines, Plan plan) {
            plan.clear();
            tape.rewind();
            if (tape.isAtEnd()) {
                return true;
            }
            for (int i = 0; i <= Tape.ROOM; i++) {
                if (!readLine(tape, lines, plan) || !readStart(tape, plan) || !readGangs(tape)) {
                    return false;
                }
                plan.add(line, after, hours, gangs);
                if (tape.isAtEnd()) {
                    return true;
                }
                if (!tape.take(";")) {
                    return false;
                }
            }
            return false;
        }

        private boolean readLine(Tape tape, Lines lines, Plan plan) {
            if (!tape.take("line")) {
                return false;
            }
            line = tape.number();
            if (!lines.isThere(line) || plan.hasOrder(line)) {
                return false;
            }
            tape.next();
            return true;
        }

        private boolean readStart(Tape tape, Plan plan) {
            if (tape.take("at")) {
                after = NONE;
                hours = tape.takeNumber(0, LAST_AT);
                return hours != NONE;
            }
            return tape.take("after") && readAfter(tape, plan);
        }

        private boolean readAfter(Tape tape, Plan plan) {
            after = tape.number();
            if (!plan.hasOrder(after)) {
                return false;
            }
            tape.next();
            hours = tape.take("and") ? tape.takeNumber(0, MOST_NUMBER) : 0;
            return hours != NONE;
        }

        private boolean readGangs(Tape tape) {
            if (!tape.take("with")) {
                return false;
            }
            gangs = tape.takeNumber(1, MOST_NUMBER);
            return gangs != NONE;
        }
    }

    /**
     * The soonest WAY. Goods stand in a PLACE on an old or a new train: a stand, twice the PLACE, and
     * 1 more on new ones. To be somewhere sooner is never worse, for goods may wait.
     */
    private static final class Ways {
        private static final int MOST_TRANSFER = 12;
        private static final int TRANSFER_STEP = 30;
        private static final int STANDS = 2 * PLACES;

        private final int[] soonest = new int[STANDS];
        private final int[] sooner = new int[STANDS];
        private final int[] latest = new int[STANDS * STANDS];
        private final int[] row = new int[STANDS];
        private int steps = NONE;
        private int transfer = 3;
        private int comes = NEVER;

        int setTransfer(int hours) {
            if (!isWithin(hours, 0, MOST_TRANSFER)) {
                return BAD_NUMBER;
            }
            int before = transfer;
            transfer = hours;
            return before;
        }

        int stepOfLatest(int i) {
            if (i == -1) {
                return steps;
            }
            return i >= 0 && i < steps ? at(row, i) : NONE;
        }

        int find(Railway railway, int from, int hour, boolean isNew, int to) {
            if (!isPlace(from) || !isHour(hour) || !isPlace(to)) {
                return BAD_NUMBER;
            }
            int start = 2 * from + (isNew ? 1 : 0);
            int fewest = fewestSteps(railway, start, hour, to);
            if (fewest == NONE) {
                return NO_WAY;
            }
            reckonLatest(railway, to, fewest);
            writeRow(railway, start, hour, fewest);
            return comes;
        }

        private static boolean isNewTrain(int stand) {
            return (stand & 1) == 1;
        }

        private static int otherTrain(int stand) {
            return stand ^ 1;
        }

        /** The stand to which a LINE leads from a stand; NONE, if it does not touch its PLACE. */
        private static int standOver(Railway railway, int line, int stand) {
            int place = railway.lines.farEnd(line, stand >> 1);
            return place == NONE ? NONE : 2 * place + (stand & 1);
        }

        /**
         * How few steps the soonest WAY has, its HOUR being left in comes; NONE, if there is none. A
         * way of the fewest steps never comes to a stand twice, so it has less steps than STANDS.
         */
        private int fewestSteps(Railway railway, int start, int hour, int to) {
            Arrays.fill(soonest, NEVER);
            put(soonest, start, hour);
            comes = soonestIn(to);
            int fewest = comes == NEVER ? NONE : 0;
            boolean changed = true;
            for (int many = 1; many < STANDS && changed; many++) {
                changed = allowOneStepMore(railway);
                if (soonestIn(to) < comes) {
                    comes = soonestIn(to);
                    fewest = many;
                }
            }
            return fewest;
        }

        private int soonestIn(int place) {
            return Math.min(at(soonest, 2 * place), at(soonest, 2 * place + 1));
        }

        /** From row to row, so that what one step comes to is not gone on from by another one at once. */
        private boolean allowOneStepMore(Railway railway) {
            System.arraycopy(soonest, 0, sooner, 0, STANDS);
            boolean changed = false;
            for (int stand = 0; stand < STANDS; stand++) {
                if (comeTo(otherTrain(stand), at(soonest, stand) + transfer)) {
                    changed = true;
                }
            }
            for (int line = 0; line < railway.lines.many; line++) {
                for (int train = 0; train < 2; train++) {
                    int one = 2 * railway.lines.oneEndOf(line) + train;
                    int other = 2 * railway.lines.otherEndOf(line) + train;
                    if (pass(railway, line, one, other)) {
                        changed = true;
                    }
                    if (pass(railway, line, other, one)) {
                        changed = true;
                    }
                }
            }
            System.arraycopy(sooner, 0, soonest, 0, STANDS);
            return changed;
        }

        private boolean pass(Railway railway, int line, int stand, int there) {
            return comeTo(there, railway.arrival(line, isNewTrain(stand), at(soonest, stand)));
        }

        private boolean comeTo(int stand, int hour) {
            if (hour > LAST_HOUR || hour >= at(sooner, stand)) {
                return false;
            }
            put(sooner, stand, hour);
            return true;
        }

        /** By how many steps are left and stand: the latest HOUR from which they can still do. */
        private void reckonLatest(Railway railway, int to, int fewest) {
            Arrays.fill(latest, NONE);
            put(latest, 2 * to, comes);
            put(latest, 2 * to + 1, comes);
            for (int left = 1; left < fewest; left++) {
                reckonLatestWith(railway, left);
            }
        }

        private void reckonLatestWith(Railway railway, int left) {
            for (int stand = 0; stand < STANDS; stand++) {
                mayWait(left, stand, latestAt(left - 1, otherTrain(stand)) - transfer);
            }
            for (int line = 0; line < railway.lines.many; line++) {
                for (int train = 0; train < 2; train++) {
                    int one = 2 * railway.lines.oneEndOf(line) + train;
                    int other = 2 * railway.lines.otherEndOf(line) + train;
                    mayWaitToPass(railway, line, left, one, other);
                    mayWaitToPass(railway, line, left, other, one);
                }
            }
        }

        private void mayWaitToPass(Railway railway, int line, int left, int stand, int there) {
            mayWait(left, stand, railway.departure(line, isNewTrain(stand), latestAt(left - 1, there)));
        }

        private void mayWait(int left, int stand, int hour) {
            int cell = left * STANDS + stand;
            if (hour > at(latest, cell)) {
                put(latest, cell, hour);
            }
        }

        private int latestAt(int left, int stand) {
            return stand == NONE ? NONE : at(latest, left * STANDS + stand);
        }

        private void writeRow(Railway railway, int start, int hour, int fewest) {
            int stand = start;
            int now = hour;
            for (int i = 0; i < fewest; i++) {
                int next = firstStep(railway, stand, now, fewest - 1 - i);
                put(row, i, next);
                if (next == TRANSFER_STEP) {
                    now += transfer;
                    stand = otherTrain(stand);
                } else {
                    now = railway.arrival(next, isNewTrain(stand), now);
                    stand = standOver(railway, next, stand);
                }
            }
            steps = fewest;
        }

        /** The first step from which those left can still do; if no LINE is one, the TRANSFER is. */
        private int firstStep(Railway railway, int stand, int hour, int left) {
            for (int line = 0; line < railway.lines.many; line++) {
                int by = latestAt(left, standOver(railway, line, stand));
                if (railway.arrival(line, isNewTrain(stand), hour) <= by) {
                    return line;
                }
            }
            return TRANSFER_STEP;
        }
    }

    /** CARS, and where they can have come over OLD LINES. */
    private static final class Cars {
        private final int[] placeOf = new int[CARS];
        private final int[] hourOf = new int[CARS];
        private final int[] first = new int[PLACES];
        private int many = 0;

        int add(int place, int hour) {
            if (!isPlace(place) || !isHour(hour)) {
                return BAD_NUMBER;
            }
            if (many >= CARS) {
                return NO_ROOM;
            }
            put(placeOf, many, place);
            put(hourOf, many, hour);
            many++;
            return many - 1;
        }

        boolean isThere(int car) {
            return car >= 0 && car < many;
        }

        int firstHourIn(Railway railway, int car, int place) {
            if (!isThere(car) || !isPlace(place)) {
                return NONE;
            }
            travel(railway, car);
            return firstIn(place) == NEVER ? NONE : firstIn(place);
        }

        /** Of the CAR that travelled last. */
        int firstIn(int place) {
            return at(first, place);
        }

        /** A soonest travel comes to no PLACE twice, so that many rounds find them all. */
        void travel(Railway railway, int car) {
            Arrays.fill(first, NEVER);
            put(first, at(placeOf, car), at(hourOf, car));
            boolean changed = true;
            for (int round = 0; round < PLACES && changed; round++) {
                changed = false;
                for (int line = 0; line < railway.lines.many; line++) {
                    int one = railway.lines.oneEndOf(line);
                    int other = railway.lines.otherEndOf(line);
                    if (pass(railway, line, one, other) || pass(railway, line, other, one)) {
                        changed = true;
                    }
                }
            }
        }

        private boolean pass(Railway railway, int line, int place, int there) {
            int hour = railway.arrival(line, false, firstIn(place));
            if (hour >= firstIn(there)) {
                return false;
            }
            put(first, there, hour);
            return true;
        }
    }

    /**
     * SHOPS, and the latest PUSHED. HOURS are counted back from its end: a CAR that can be pushed in
     * a SHOP from an HOUR on can be in the last n HOURS there, and CARS may as well be pushed as late
     * as can be, so that no more than the last 30 HOURS are looked at. A slot is a SHOP in one of them.
     */
    private static final class Shops {
        private static final int MOST_PUSHERS = 9;
        private static final int HOURS_BACK = CARS;

        private final int[] pushers = new int[PLACES];
        private final int[] hoursLeft = new int[CARS * PLACES];
        private final int[] slotOf = new int[CARS];
        private final int[] wantedBy = new int[CARS];
        private final int[] queue = new int[CARS];
        private final int[] hoursSeen = new int[PLACES];
        private int queued = 0;
        private boolean hasLatest = false;

        int setPushers(int place, int many) {
            if (!isPlace(place) || !isWithin(many, 0, MOST_PUSHERS)) {
                return BAD_NUMBER;
            }
            int before = at(pushers, place);
            put(pushers, place, many);
            return before;
        }

        int isInLatest(int car) {
            if (!hasLatest) {
                return NONE;
            }
            return at(slotOf, car) == NONE ? 0 : 1;
        }

        int push(Railway railway, Cars cars, int end) {
            if (!isHour(end)) {
                return BAD_NUMBER;
            }
            hasLatest = true;
            Arrays.fill(slotOf, NONE);
            int many = 0;
            for (int car = 0; car < cars.many; car++) {
                cars.travel(railway, car);
                reckonHoursLeft(cars, car, end);
                if (comesIntoSet(car)) {
                    many++;
                }
            }
            return many;
        }

        private void reckonHoursLeft(Cars cars, int car, int end) {
            for (int place = 0; place < PLACES; place++) {
                int left = Math.min(end - cars.firstIn(place), HOURS_BACK);
                put(hoursLeft, car * PLACES + place, at(pushers, place) > 0 ? left : 0);
            }
        }

        /**
         * Looks for a free slot for a CAR, asking those that hold the slots it could have, and those
         * asked by them, to move on; all of the set stay in it, only their slots change. Each slot is
         * seen once in a search, so that each CAR is asked once at most.
         */
        private boolean comesIntoSet(int car) {
            Arrays.fill(hoursSeen, 0);
            queued = 0;
            ask(car, NONE);
            for (int i = 0; i < queued && i < CARS; i++) {
                int slot = freeSlot(at(queue, i));
                if (slot != NONE) {
                    moveOn(at(queue, i), slot);
                    return true;
                }
            }
            return false;
        }

        private void ask(int car, int by) {
            put(wantedBy, car, by);
            put(queue, queued, car);
            queued++;
        }

        /** A slot that a CAR could have and that has room; NONE: then all that hold one are asked. */
        private int freeSlot(int car) {
            for (int place = 0; place < PLACES; place++) {
                int left = at(hoursLeft, car * PLACES + place);
                for (int back = at(hoursSeen, place); back < left; back++) {
                    int slot = place * HOURS_BACK + back;
                    if (manyIn(slot) < at(pushers, place)) {
                        return slot;
                    }
                    askHolders(slot, car);
                    put(hoursSeen, place, back + 1);
                }
            }
            return NONE;
        }

        private int manyIn(int slot) {
            int many = 0;
            for (int car = 0; car < CARS; car++) {
                if (at(slotOf, car) == slot) {
                    many++;
                }
            }
            return many;
        }

        private void askHolders(int slot, int by) {
            for (int car = 0; car < CARS; car++) {
                if (at(slotOf, car) == slot) {
                    ask(car, by);
                }
            }
        }

        /** Each CAR of the chain takes the slot that the one it asked leaves. */
        private void moveOn(int last, int free) {
            int car = last;
            int slot = free;
            for (int i = 0; i < CARS && car != NONE; i++) {
                int left = at(slotOf, car);
                put(slotOf, car, slot);
                slot = left;
                car = at(wantedBy, car);
            }
        }
    }

    /** WHEELS, and where they were SEEN. */
    private static final class Wheels {
        private static final int WHEELS = 60;
        private static final int MOST_SEEN = 200;

        private final int[] toldCar = new int[WHEELS];
        private final int[] seenWheel = new int[MOST_SEEN];
        private final int[] seenCar = new int[MOST_SEEN];
        private final int[] seenHour = new int[MOST_SEEN];
        private final int[] seenKnown = new int[MOST_SEEN];
        private int many = 0;
        private int manySeen = 0;

        int add(Cars cars, int car) {
            if (!cars.isThere(car)) {
                return NO_SUCH;
            }
            if (many >= WHEELS) {
                return NO_ROOM;
            }
            put(toldCar, many, car);
            many++;
            return many - 1;
        }

        int tell(Cars cars, int wheel, int car, int hour, int known) {
            if (!isHour(hour) || !isWithin(known, 0, LAST_KNOWN)) {
                return BAD_NUMBER;
            }
            if (!isThere(wheel) || !cars.isThere(car)) {
                return NO_SUCH;
            }
            if (manySeen >= MOST_SEEN) {
                return NO_ROOM;
            }
            put(seenWheel, manySeen, wheel);
            put(seenCar, manySeen, car);
            put(seenHour, manySeen, hour);
            put(seenKnown, manySeen, known);
            manySeen++;
            return manySeen;
        }

        int carOver(int wheel, int hour, int known) {
            if (!isThere(wheel) || !isHour(hour) || !isWithin(known, 0, LAST_KNOWN)) {
                return NONE;
            }
            int car = at(toldCar, wheel);
            int latest = NONE;
            for (int i = 0; i < manySeen; i++) {
                boolean counts = at(seenWheel, i) == wheel && at(seenKnown, i) <= known;
                if (counts && isWithin(at(seenHour, i), latest, hour)) {
                    latest = at(seenHour, i);
                    car = at(seenCar, i);
                }
            }
            return car;
        }

        private boolean isThere(int wheel) {
            return wheel >= 0 && wheel < many;
        }
    }
}
