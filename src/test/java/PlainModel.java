import java.math.BigInteger;
import java.util.ArrayList;
import java.util.HashMap;
import java.util.HashSet;
import java.util.List;
import java.util.Map;
import java.util.Set;
import java.util.regex.Matcher;
import java.util.regex.Pattern;

/**
 * The document once more, as slow and plain as can be: hour by hour, with nothing reckoned ahead.
 * Only ModelTest uses it.
 */
final class PlainModel {
    record Line(int a, int b, int miles, int hours, boolean set) {
        int from(int place) {
            return place == a ? b : place == b ? a : -1;
        }
    }

    record Order(int line, boolean at, int hour, int after, int with) { }

    record Token(String text, int place) { }

    record Car(int place, int hour) { }

    record Seen(int wheel, int car, int hour, int known) { }

    private final List<Line> lines = new ArrayList<>();
    private final List<Car> cars = new ArrayList<>();
    private final List<Integer> wheels = new ArrayList<>();
    private final List<Seen> seen = new ArrayList<>();
    private List<Order> orders = new ArrayList<>();
    private final int[] pushers = new int[16];
    private int setRate = 4;
    private int otherRate = 2;
    private int gangs = 20;
    private int transfer = 3;
    private String tape = "";
    private int fault = -1;
    private int status = 0;
    private int[] latestWay = null;
    private Set<Integer> latestPushed = null;

    private int told(int answer) {
        status = answer < 0 ? answer : 0;
        return answer;
    }

    private static boolean in(int x, int low, int high) {
        return low <= x && x <= high;
    }

    int line(int a, int b, int miles, int hours, boolean set) {
        if (!in(a, 0, 15) || !in(b, 0, 15) || a == b || !in(miles, 1, 200) || !in(hours, 1, 12)) {
            return told(-1);
        }
        if (lines.size() == 30) {
            return told(-5);
        }
        lines.add(new Line(a, b, miles, hours, set));
        return told(lines.size() - 1);
    }

    int rates(int set, int other) {
        if (!in(set, 1, 20) || !in(other, 1, 20)) {
            return told(-1);
        }
        setRate = set;
        otherRate = other;
        return told(0);
    }

    int gangs(int many) {
        int before = gangs;
        if (!in(many, 0, 99)) {
            return told(-1);
        }
        gangs = many;
        return told(before);
    }

    int transfer(int hours) {
        int before = transfer;
        if (!in(hours, 0, 12)) {
            return told(-1);
        }
        transfer = hours;
        return told(before);
    }

    int feed(int... numbers) {
        if (tape.length() > 380) {
            return -1;
        }
        for (int n : numbers) {
            for (int i = 3; i >= 0; i--) {
                tape += (char) (n >> 8 * i & 255);
            }
        }
        return tape.length();
    }

    int end(int n) {
        if (!in(n, 0, tape.length())) {
            return -1;
        }
        tape = tape.substring(0, n);
        return n;
    }

    int orders() {
        List<Token> tokens = tokens(tape);
        tokens.add(new Token("", tape.length()));
        tape = "";
        List<Order> read = new ArrayList<>();
        int bad = tokens.size() == 1 ? -1 : readAll(tokens, read);
        fault = bad < 0 ? -1 : tokens.get(bad).place;
        if (bad >= 0) {
            return told(-6);
        }
        orders = read;
        return told(read.size());
    }

    private static List<Token> tokens(String text) {
        List<Token> tokens = new ArrayList<>();
        Matcher m = Pattern.compile("[a-z]+|[0-9]+|[^ ]", Pattern.DOTALL).matcher(text);
        while (m.find()) {
            tokens.add(new Token(m.group(), m.start()));
        }
        return tokens;
    }

    /** The number of the first token that can't go on there; -1. */
    private int readAll(List<Token> tokens, List<Order> read) {
        int i = 0;
        while (true) {
            boolean at;
            int hour = 0;
            int after = -1;
            if (!tokens.get(i).text.equals("line")) {
                return i;
            }
            i++;
            int line = number(tokens.get(i), 0, lines.size() - 1);
            if (line < 0 || has(read, line)) {
                return i;
            }
            i++;
            if (tokens.get(i).text.equals("at")) {
                at = true;
                i++;
                hour = number(tokens.get(i), 0, 100);
                if (hour < 0) {
                    return i;
                }
            } else if (tokens.get(i).text.equals("after")) {
                at = false;
                i++;
                after = number(tokens.get(i), 0, lines.size() - 1);
                if (after < 0 || !has(read, after)) {
                    return i;
                }
                if (tokens.get(i + 1).text.equals("and")) {
                    i += 2;
                    hour = number(tokens.get(i), 0, 99);
                    if (hour < 0) {
                        return i;
                    }
                }
            } else {
                return i;
            }
            i++;
            if (!tokens.get(i).text.equals("with")) {
                return i;
            }
            i++;
            int with = number(tokens.get(i), 1, 99);
            if (with < 0) {
                return i;
            }
            read.add(new Order(line, at, hour, after, with));
            i++;
            if (tokens.get(i).text.isEmpty()) {
                return -1;
            }
            if (!tokens.get(i).text.equals(";")) {
                return i;
            }
            i++;
        }
    }

    private static boolean has(List<Order> read, int line) {
        return read.stream().anyMatch(o -> o.line == line);
    }

    private static int number(Token token, int low, int high) {
        if (!token.text.matches("[0-9]+")) {
            return -1;
        }
        BigInteger n = new BigInteger(token.text);
        return n.bitLength() > 20 || !in(n.intValue(), low, high) ? -1 : n.intValue();
    }

    int fault() {
        return fault;
    }

    private Order orderOf(int line) {
        return orders.stream().filter(o -> o.line == line).findFirst().orElse(null);
    }

    private int begins(int line) {
        Order o = orderOf(line);
        return o == null ? -1 : o.at ? o.hour : done(o.after) + o.hour;
    }

    private int done(int line) {
        Order o = orderOf(line);
        if (o == null) {
            return -1;
        }
        Line l = lines.get(line);
        int hours = 0;
        for (int left = l.miles; left > 0; left -= o.with * (l.set ? setRate : otherRate)) {
            hours++;
        }
        return begins(line) + hours;
    }

    int of(int line, int what) {
        if (!in(line, 0, lines.size() - 1) || !in(what, 0, 2)) {
            return -1;
        }
        if (what == 2) {
            return orderOf(line) == null ? 0 : orderOf(line).with;
        }
        return what == 0 ? begins(line) : done(line);
    }

    int is(int line, int hour) {
        if (!in(line, 0, lines.size() - 1) || !in(hour, 0, 120)) {
            return -1;
        }
        if (orderOf(line) == null || hour < begins(line)) {
            return 0;
        }
        return hour < done(line) ? 1 : 2;
    }

    int busy(int hour) {
        if (!in(hour, 0, 120)) {
            return -1;
        }
        return orders.stream().filter(o -> is(o.line, hour) == 1).mapToInt(Order::with).sum();
    }

    int lack() {
        for (int h = 0; h <= 120; h++) {
            if (busy(h) > gangs) {
                return h;
            }
        }
        return -1;
    }

    /** Whether a train of a sort may leave over each line in each hour. */
    private boolean[][] passes(boolean isNew) {
        boolean[][] may = new boolean[lines.size()][121];
        for (int l = 0; l < lines.size(); l++) {
            for (int h = 0; h <= 120; h++) {
                boolean good = h + lines.get(l).hours <= 120 && is(l, h) == (isNew ? 2 : 0);
                for (int on = h; good && !isNew && on < h + lines.get(l).hours; on++) {
                    good = is(l, on) == 0;
                }
                may[l][h] = good;
            }
        }
        return may;
    }

    /** Layer by layer of steps: in which hour, where and on which train one can be, by the first row. */
    int way(int from, int hour, boolean isNew, int to) {
        if (!in(from, 0, 15) || !in(hour, 0, 120) || !in(to, 0, 15)) {
            return told(-1);
        }
        boolean[][][] may = {passes(false), passes(true)};
        Map<Integer, String> layer = new HashMap<>();
        layer.put(stand(from, isNew ? 1 : 0, hour), "");
        int best = 121;
        String row = null;
        for (int steps = 0; steps < 32 && !layer.isEmpty(); steps++) {
            for (int h = 0; h < best; h++) {
                for (int train = 0; train < 2; train++) {
                    String r = layer.get(stand(to, train, h));
                    if (r != null && (h < best || r.compareTo(row) < 0)) {
                        best = h;
                        row = r;
                    }
                }
            }
            layer = nextLayer(layer, may, best);
        }
        if (row == null) {
            return told(-6);
        }
        latestWay = row.chars().map(c -> c - 'a').toArray();
        return told(best);
    }

    private static int stand(int place, int train, int hour) {
        return (place * 2 + train) * 200 + hour;
    }

    private Map<Integer, String> nextLayer(Map<Integer, String> layer, boolean[][][] may, int best) {
        Map<Integer, String> next = new HashMap<>();
        for (int place = 0; place < 16; place++) {
            for (int train = 0; train < 2; train++) {
                String row = null;
                for (int h = 0; h <= Math.min(120, best); h++) {
                    row = first(row, layer.get(stand(place, train, h)));
                    if (row == null) {
                        continue;
                    }
                    if (h + transfer <= 120) {
                        next.merge(stand(place, 1 - train, h + transfer), row + (char) ('a' + 30), PlainModel::first);
                    }
                    for (int l = 0; l < lines.size(); l++) {
                        int there = lines.get(l).from(place);
                        if (there >= 0 && may[train][l][h]) {
                            next.merge(stand(there, train, h + lines.get(l).hours), row + (char) ('a' + l), PlainModel::first);
                        }
                    }
                }
            }
        }
        return next;
    }

    private static String first(String a, String b) {
        return a == null ? b : b == null || a.compareTo(b) <= 0 ? a : b;
    }

    int step(int i) {
        if (latestWay == null) {
            return -1;
        }
        return i == -1 ? latestWay.length : in(i, 0, latestWay.length - 1) ? latestWay[i] : -1;
    }

    int shop(int place, int many) {
        if (!in(place, 0, 15) || !in(many, 0, 9)) {
            return told(-1);
        }
        int before = pushers[place];
        pushers[place] = many;
        return told(before);
    }

    int car(int place, int hour) {
        if (!in(place, 0, 15) || !in(hour, 0, 120)) {
            return told(-1);
        }
        if (cars.size() == 30) {
            return told(-5);
        }
        cars.add(new Car(place, hour));
        return told(cars.size() - 1);
    }

    private boolean[][] whereCarCanBe(int car, boolean[][] may) {
        boolean[][] there = new boolean[16][121];
        there[cars.get(car).place][cars.get(car).hour] = true;
        for (int h = 0; h <= 120; h++) {
            for (int place = 0; place < 16; place++) {
                there[place][h] |= h > 0 && there[place][h - 1];
                for (int l = 0; l < lines.size() && there[place][h]; l++) {
                    int far = lines.get(l).from(place);
                    if (far >= 0 && may[l][h]) {
                        there[far][h + lines.get(l).hours] = true;
                    }
                }
            }
        }
        return there;
    }

    int comes(int car, int place) {
        if (!in(car, 0, cars.size() - 1) || !in(place, 0, 15)) {
            return -1;
        }
        boolean[][] there = whereCarCanBe(car, passes(false));
        for (int h = 0; h <= 120; h++) {
            if (there[place][h]) {
                return h;
            }
        }
        return -1;
    }

    int pushed(int end) {
        if (!in(end, 0, 120)) {
            return told(-1);
        }
        boolean[][] may = passes(false);
        List<boolean[][]> there = new ArrayList<>();
        latestPushed = new HashSet<>();
        Map<Integer, Integer> carOf = new HashMap<>();
        for (int car = 0; car < cars.size(); car++) {
            there.add(whereCarCanBe(car, may));
            if (findsRoom(car, end, there, carOf, new HashSet<>())) {
                latestPushed.add(car);
            }
        }
        return told(latestPushed.size());
    }

    /** Each pusher in each hour is a room of its own. */
    private boolean findsRoom(int car, int end, List<boolean[][]> there, Map<Integer, Integer> carOf, Set<Integer> tried) {
        for (int place = 0; place < 16; place++) {
            for (int h = 0; h < end; h++) {
                for (int p = 0; p < pushers[place] && there.get(car)[place][h]; p++) {
                    int room = (place * 9 + p) * 200 + h;
                    if (tried.add(room)) {
                        Integer holder = carOf.get(room);
                        if (holder == null || findsRoom(holder, end, there, carOf, tried)) {
                            carOf.put(room, car);
                            return true;
                        }
                    }
                }
            }
        }
        return false;
    }

    int has(int car) {
        if (!in(car, 0, cars.size() - 1) || latestPushed == null) {
            return -1;
        }
        return latestPushed.contains(car) ? 1 : 0;
    }

    int wheel(int car) {
        if (!in(car, 0, cars.size() - 1)) {
            return told(-2);
        }
        if (wheels.size() == 60) {
            return told(-5);
        }
        wheels.add(car);
        return told(wheels.size() - 1);
    }

    int see(int wheel, int car, int hour, int known) {
        if (!in(hour, 0, 120) || !in(known, 0, 1000)) {
            return told(-1);
        }
        if (!in(wheel, 0, wheels.size() - 1) || !in(car, 0, cars.size() - 1)) {
            return told(-2);
        }
        if (seen.size() == 200) {
            return told(-5);
        }
        seen.add(new Seen(wheel, car, hour, known));
        return told(seen.size());
    }

    int under(int wheel, int hour, int known) {
        if (!in(wheel, 0, wheels.size() - 1) || !in(hour, 0, 120) || !in(known, 0, 1000)) {
            return -1;
        }
        for (int h = hour; h >= 0; h--) {
            for (int i = seen.size() - 1; i >= 0; i--) {
                Seen s = seen.get(i);
                if (s.wheel == wheel && s.hour == h && s.known <= known) {
                    return s.car;
                }
            }
        }
        return wheels.get(wheel);
    }

    int count(int what) {
        int[] counts = {lines.size(), orders.size(), cars.size(), wheels.size(), seen.size(), tape.length(),
            orders.stream().mapToInt(o -> done(o.line)).max().orElse(0)};
        return in(what, 0, 6) ? counts[what] : -1;
    }

    int status() {
        return status;
    }
}
