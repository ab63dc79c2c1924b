import java.io.IOException;
import java.lang.reflect.Method;
import java.lang.reflect.Modifier;
import java.nio.file.Files;
import java.nio.file.Path;
import java.util.ArrayList;
import java.util.HashMap;
import java.util.HashSet;
import java.util.List;
import java.util.Map;
import java.util.Set;
import java.util.regex.Matcher;
import java.util.regex.Pattern;

/** README.md as it stands: each call that it shows is made, and has to answer what stands behind it. */
public final class ReadmeTest {
    private static final String NEW = "GaugeWeekend x = new GaugeWeekend();";
    private static final Pattern CALL = Pattern.compile("x\\.(\\w+)\\(([^)]*)\\); +// (-?\\d+)(: .*)?");
    private static final Pattern ROW = Pattern.compile("\\| `(-\\d|NONE)` \\|[^|]*\\|((?: `\\w+`)+) \\|");
    /** Each way in which the document lets a call be refused, and each call that answers NONE. */
    private static final int REFUSALS = 9 + 2 + 4 + 2 + 12;
    private static final Checks t = new Checks();

    private final Map<String, Method> calls = new HashMap<>();
    private final Set<String> shown = new HashSet<>();
    private GaugeWeekend x = null;

    public static void main(String[] args) throws IOException, ReflectiveOperationException {
        List<String> page = Files.readAllLines(Path.of("README.md"));
        t.about("README.md, calls");
        new ReadmeTest().makeCalls(page);
        t.about("README.md, refused calls");
        refusals(page);
        t.close();
    }

    private ReadmeTest() {
        for (Method call : GaugeWeekend.class.getDeclaredMethods()) {
            if (Modifier.isPublic(call.getModifiers())) {
                calls.put(call.getName(), call);
            }
        }
    }

    private void makeCalls(List<String> page) throws ReflectiveOperationException {
        boolean isCode = false;
        for (String line : page) {
            if (line.startsWith("```")) {
                isCode = line.equals("```java");
            } else if (isCode && !line.isEmpty()) {
                makeCall(line);
            }
        }
        Set<String> missing = new HashSet<>(calls.keySet());
        missing.removeAll(shown);
        t.due("calls that are not shown " + missing, missing.size(), 0);
    }

    /** A line that can't be read is a wrong one, so that no call is shown that is not made. */
    private void makeCall(String line) throws ReflectiveOperationException {
        if (line.equals(NEW)) {
            x = new GaugeWeekend();
            return;
        }
        Matcher m = CALL.matcher(line);
        boolean good = x != null && m.matches() && calls.containsKey(m.group(1));
        t.due("'" + line + "' read", good ? 1 : 0, 1);
        if (good) {
            Method call = calls.get(m.group(1));
            shown.add(m.group(1));
            t.due(line, (int) call.invoke(x, arguments(call, m.group(2))), Integer.parseInt(m.group(3)));
        }
    }

    private static Object[] arguments(Method call, String text) {
        Class<?>[] types = call.getParameterTypes();
        String[] words = text.isEmpty() ? new String[0] : text.split(", ");
        t.due("arguments (" + text + ") of " + call.getName(), words.length, types.length);
        Object[] arguments = new Object[types.length];
        for (int i = 0; i < types.length; i++) {
            String word = i < words.length ? words[i] : "0";
            arguments[i] = types[i] == boolean.class ? (Object) Boolean.valueOf(word) : (Object) number(word);
        }
        return arguments;
    }

    private static Integer number(String word) {
        return word.startsWith("0x") ? Integer.parseUnsignedInt(word.substring(2), 16) : Integer.valueOf(word);
    }

    /** The rows of both tables: each call that a row names is refused as the row says. */
    private static void refusals(List<String> page) {
        List<String> told = new ArrayList<>();
        for (String line : page) {
            Matcher row = ROW.matcher(line);
            if (row.matches()) {
                for (String name : row.group(2).trim().split(" ")) {
                    told.add(row.group(1) + " " + name.substring(1, name.length() - 1));
                }
            }
        }
        t.due("refusals told", new HashSet<>(told).size(), REFUSALS);
        for (String refusal : told) {
            refusal(refusal);
        }
    }

    private static void refusal(String refusal) {
        GaugeWeekend x = full();
        if (refusal.startsWith("NONE ")) {
            x.wheel(30);
            t.due(refusal, answersNone(x, refusal.substring(5)), GaugeWeekend.NONE);
            t.due("status() left by " + refusal, x.status(), Checks.NO_SUCH);
        } else {
            t.dueRefused(x, refusal, refused(x, refusal), Integer.parseInt(refusal.substring(0, 2)));
        }
    }

    /** An object that has no room, but for orders. */
    private static GaugeWeekend full() {
        GaugeWeekend x = new GaugeWeekend();
        for (int i = 0; i < 30; i++) {
            t.due("line", x.line(0, 1, 1, 1, true), i);
            t.due("car", x.car(0, 0), i);
        }
        for (int i = 0; i < 60; i++) {
            t.due("wheel", x.wheel(0), i);
        }
        for (int i = 0; i < 200; i++) {
            t.due("see", x.see(0, 0, 0, 0), i + 1);
        }
        return x;
    }

    private static int refused(GaugeWeekend x, String refusal) {
        return switch (refusal) {
            case "-1 line" -> x.line(0, 0, 1, 1, true);
            case "-1 rates" -> x.rates(0, 1);
            case "-1 gangs" -> x.gangs(100);
            case "-1 transfer" -> x.transfer(13);
            case "-1 way" -> x.way(16, 0, false, 0);
            case "-1 shop" -> x.shop(0, 10);
            case "-1 car" -> x.car(0, 121);
            case "-1 pushed" -> x.pushed(121);
            case "-1 see" -> x.see(60, 0, 0, 1001);
            case "-2 wheel" -> x.wheel(30);
            case "-2 see" -> x.see(60, 0, 0, 0);
            case "-5 line" -> x.line(0, 1, 1, 1, true);
            case "-5 car" -> x.car(0, 0);
            case "-5 wheel" -> x.wheel(0);
            case "-5 see" -> x.see(0, 0, 0, 0);
            case "-6 orders" -> Checks.order(x, "line");
            case "-6 way" -> x.way(0, 0, false, 2);
            default -> 0;
        };
    }

    private static int answersNone(GaugeWeekend x, String name) {
        return switch (name) {
            case "feed" -> feedTooMuch(x);
            case "end" -> x.end(1);
            case "fault" -> x.fault();
            case "of" -> x.of(0, 3);
            case "is" -> x.is(30, 0);
            case "busy" -> x.busy(121);
            case "lack" -> x.lack();
            case "step" -> x.step(0);
            case "comes" -> x.comes(0, 2);
            case "has" -> x.has(30);
            case "under" -> x.under(60, 0, 0);
            case "count" -> x.count(7);
            default -> 0;
        };
    }

    private static int feedTooMuch(GaugeWeekend x) {
        for (int i = 0; i < 20; i++) {
            x.feed(0, 0, 0, 0, 0);
        }
        return x.feed(0, 0, 0, 0, 0);
    }
}
