/** Runs of many calls, made up by a fixed row of numbers: GaugeWeekend answers as PlainModel does. */
public final class ModelTest {
    private static final int RUNS = 4000;
    /** An object's answers are due for 512 calls; the last turn may make some fifty. */
    private static final int CALLS = 460;
    private static final Checks t = new Checks();

    private long row;
    private int places;
    private int longest;
    private int calls = 0;
    private final GaugeWeekend x = new GaugeWeekend();
    private final PlainModel m = new PlainModel();

    private ModelTest(int run) {
        row = run * 7919L + 17;
        places = 2 + pick(run % 5 == 0 ? 14 : 5);
        longest = 1 + pick(run % 3 == 0 ? 12 : 4);
    }

    public static void main(String[] args) {
        for (int run = 0; run < RUNS && t.isClean(); run++) {
            t.about("run " + run);
            new ModelTest(run).run();
        }
        t.close();
    }

    private int pick(int below) {
        row = row * 6364136223846793005L + 1442695040888963407L;
        return (int) ((row >>> 33) % below);
    }

    /** Mostly 0 .. below - 1; now and then a number that can't be. */
    private int some(int below) {
        if (pick(60) != 0) {
            return pick(below);
        }
        int[] odd = {-1, below, below + 1, -2, Integer.MIN_VALUE, Integer.MAX_VALUE, 65536, 1 << 31 >>> 1};
        return odd[pick(odd.length)];
    }

    private void run() {
        for (int i = 5 + pick(40); i > 0; i--) {
            setUp();
        }
        while (calls < CALLS && t.isClean()) {
            call();
        }
    }

    private void due(String call, int got, int want) {
        calls++;
        t.due(call, got, want);
    }

    private void setUp() {
        switch (pick(6)) {
            case 0, 1, 2 -> line();
            case 3 -> car();
            case 4 -> shop();
            default -> orders();
        }
    }

    private void call() {
        switch (pick(30)) {
            case 0 -> line();
            case 1 -> rates();
            case 2, 3 -> smallSettings();
            case 4, 5 -> orders();
            case 6 -> looseTape();
            case 7, 8, 9, 10, 11, 12 -> way();
            case 13 -> shop();
            case 14 -> car();
            case 15, 16, 17 -> comes();
            case 18, 19, 20 -> pushed();
            case 21 -> wheel();
            case 22, 23 -> see();
            case 24, 25 -> under();
            default -> look();
        }
        due("status()", x.status(), m.status());
    }

    private void line() {
        int a = some(places);
        int b = some(places);
        int miles = 1 + some(pick(2) == 0 ? 200 : 20);
        int hours = 1 + some(longest);
        boolean set = pick(2) == 0;
        due("line(" + a + ", " + b + ", " + miles + ", " + hours + ", " + set + ")",
                x.line(a, b, miles, hours, set), m.line(a, b, miles, hours, set));
    }

    private void rates() {
        int set = 1 + some(20);
        int other = 1 + some(20);
        due("rates(" + set + ", " + other + ")", x.rates(set, other), m.rates(set, other));
    }

    private void smallSettings() {
        int many = some(pick(2) == 0 ? 100 : 10);
        due("gangs(" + many + ")", x.gangs(many), m.gangs(many));
        int hours = some(pick(2) == 0 ? 13 : 3);
        due("transfer(" + hours + ")", x.transfer(hours), m.transfer(hours));
    }

    private void orders() {
        String text = text();
        Checks.feedText(x, text);
        calls += 2 + text.length() / 20;
        m.end(0);
        for (int i = 0; i < text.length(); i += 20) {
            int[] n = new int[5];
            for (int j = 0; j < 20; j++) {
                n[j / 4] = n[j / 4] << 8 | (i + j < text.length() ? text.charAt(i + j) : 0);
            }
            m.feed(n);
        }
        m.end(text.length());
        due("count(5)", x.count(5), m.count(5));
        due("orders() of '" + text + "'", x.orders(), m.orders());
        due("fault() of '" + text + "'", x.fault(), m.fault());
    }

    private String text() {
        StringBuilder text = new StringBuilder();
        int lines = Math.max(1, m.count(0));
        int many = 1 + pick(Math.min(lines, 12));
        int start = pick(lines);
        for (int i = 0; i < many; i++) {
            text.append(i == 0 ? "" : blanks(0) + ";" + blanks(0));
            text.append("line").append(blanks(0)).append(number((start + i) % lines));
            if (i == 0 || pick(2) == 0) {
                text.append(blanks(0)).append("at").append(blanks(0)).append(number(pick(pick(2) == 0 ? 101 : 20)));
            } else {
                text.append(blanks(0)).append("after").append(blanks(0)).append(number((start + pick(i)) % lines));
                if (pick(2) == 0) {
                    text.append(blanks(0)).append("and").append(blanks(0)).append(number(pick(pick(2) == 0 ? 100 : 5)));
                }
            }
            text.append(blanks(0)).append("with").append(blanks(0)).append(number(1 + pick(pick(2) == 0 ? 99 : 4)));
        }
        text.append(blanks(0));
        if (pick(3) == 0) {
            spoil(text);
        }
        return text.length() > 400 ? text.substring(0, 400) : text.toString();
    }

    private String blanks(int least) {
        return " ".repeat(least + (pick(5) == 0 ? pick(4) : pick(2)));
    }

    private String number(int n) {
        return (pick(20) == 0 ? "00" : "") + n;
    }

    private void spoil(StringBuilder text) {
        int place = pick(text.length() + 1);
        String[] parts = {"line", "at", "after", "and", "with", ";", "0", "7", "100", "99999999999", " ", "x", "A", ",",
            "" + (char) 0, "" + (char) 200, "\t", " 101 ", " 2 "};
        switch (pick(3)) {
            case 0 -> text.setLength(place);
            case 1 -> text.insert(place, parts[pick(parts.length)]);
            default -> text.delete(place, Math.min(text.length(), place + 1 + pick(6)));
        }
    }

    private void looseTape() {
        int[] n = new int[5];
        for (int i = 0; i < 5; i++) {
            n[i] = pick(3) == 0 ? 0x20202020 : pick(1 << 30) * 4 + pick(4);
        }
        for (int i = pick(4) == 0 ? 22 : pick(3); i >= 0; i--) {
            due("feed()", x.feed(n[0], n[1], n[2], n[3], n[4]), m.feed(n));
        }
        int n1 = pick(2) == 0 ? some(401) : some(5);
        due("end(" + n1 + ")", x.end(n1), m.end(n1));
        due("orders()", x.orders(), m.orders());
        due("fault()", x.fault(), m.fault());
    }

    private void way() {
        int from = some(places);
        int hour = some(pick(3) == 0 ? 121 : 30);
        boolean isNew = pick(2) == 0;
        int to = some(places);
        due("way(" + from + ", " + hour + ", " + isNew + ", " + to + ")",
                x.way(from, hour, isNew, to), m.way(from, hour, isNew, to));
        for (int i = -2; i < Math.max(2, m.step(-1) + 1); i++) {
            due("step(" + i + ")", x.step(i), m.step(i));
        }
    }

    private void shop() {
        int place = some(places);
        int many = some(pick(3) == 0 ? 10 : 2);
        due("shop(" + place + ", " + many + ")", x.shop(place, many), m.shop(place, many));
    }

    private void car() {
        int place = some(places);
        int hour = some(pick(3) == 0 ? 121 : 15);
        for (int i = pick(4); i >= 0; i--) {
            due("car(" + place + ", " + hour + ")", x.car(place, hour), m.car(place, hour));
        }
    }

    private void comes() {
        int car = some(Math.max(1, m.count(2)));
        int place = some(places);
        due("comes(" + car + ", " + place + ")", x.comes(car, place), m.comes(car, place));
    }

    private void pushed() {
        int end = some(pick(4) == 0 ? 121 : 25);
        due("pushed(" + end + ")", x.pushed(end), m.pushed(end));
        for (int car = -1; car <= m.count(2); car++) {
            due("has(" + car + ")", x.has(car), m.has(car));
        }
    }

    private void wheel() {
        int car = some(Math.max(1, m.count(2)));
        due("wheel(" + car + ")", x.wheel(car), m.wheel(car));
    }

    private void see() {
        int wheel = some(Math.max(1, m.count(3)));
        int car = some(Math.max(1, m.count(2)));
        int hour = some(pick(2) == 0 ? 121 : 6);
        int known = some(pick(2) == 0 ? 1001 : 6);
        due("see(" + wheel + ", " + car + ", " + hour + ", " + known + ")",
                x.see(wheel, car, hour, known), m.see(wheel, car, hour, known));
    }

    private void under() {
        int wheel = some(Math.max(1, m.count(3)));
        int hour = some(pick(2) == 0 ? 121 : 6);
        int known = some(pick(2) == 0 ? 1001 : 6);
        due("under(" + wheel + ", " + hour + ", " + known + ")",
                x.under(wheel, hour, known), m.under(wheel, hour, known));
    }

    private void look() {
        for (int what = -1; what <= 7; what++) {
            due("count(" + what + ")", x.count(what), m.count(what));
        }
        int line = some(Math.max(1, m.count(0)));
        for (int what = -1; what <= 3; what++) {
            due("of(" + line + ", " + what + ")", x.of(line, what), m.of(line, what));
        }
        int hour = some(pick(2) == 0 ? 121 : 30);
        due("is(" + line + ", " + hour + ")", x.is(line, hour), m.is(line, hour));
        due("busy(" + hour + ")", x.busy(hour), m.busy(hour));
        due("lack()", x.lack(), m.lack());
        due("has(0)", x.has(0), m.has(0));
        due("step(-1)", x.step(-1), m.step(-1));
    }
}
