import java.io.IOException;
import java.lang.reflect.Constructor;
import java.lang.reflect.Field;
import java.lang.reflect.Method;
import java.lang.reflect.Modifier;
import java.nio.file.Files;
import java.nio.file.Path;
import java.util.Set;
import java.util.TreeSet;
import java.util.regex.Matcher;
import java.util.regex.Pattern;

/** 'What it is' and 'The public face' of the document: what it writes there the class has, and no more. */
public final class FaceTest {
    private static final Checks t = new Checks();

    public static void main(String[] args) throws IOException {
        String document = Files.readString(Path.of("../shared/DOC.md"));
        face(document.substring(document.indexOf("## The public face"), document.indexOf("## Terms")));
        constant();
        classesInside();
        manyCalls();
        t.close();
    }

    private static void face(String face) {
        t.about("The public face");
        Set<String> asked = new TreeSet<>();
        Matcher m = Pattern.compile("    (public [^;]*);").matcher(face);
        while (m.find()) {
            // "int a, int b" becomes "int,int", as a member is told below.
            asked.add(m.group(1).replaceAll("(int|boolean) \\w+(?=[,)])", "$1").replace(", ", ","));
        }
        t.due("members asked for", asked.size(), 26);
        t.due("the class is public and final", face.contains("public final class GaugeWeekend")
                && GaugeWeekend.class.getModifiers() == (Modifier.PUBLIC | Modifier.FINAL) ? 1 : 0, 1);
        Set<String> missing = new TreeSet<>(asked);
        missing.removeAll(members());
        t.due("members that are missing " + missing, missing.size(), 0);
        Set<String> beside = members();
        beside.removeAll(asked);
        t.due("members that were not asked for " + beside, beside.size(), 0);
    }

    /** All members that are not private, but for the classes inside. */
    private static Set<String> members() {
        Set<String> members = new TreeSet<>();
        for (Constructor<?> c : GaugeWeekend.class.getDeclaredConstructors()) {
            add(members, c.getModifiers(), c.isSynthetic(), c.toString());
        }
        for (Method m : GaugeWeekend.class.getDeclaredMethods()) {
            add(members, m.getModifiers(), m.isSynthetic(), m.toString());
        }
        for (Field f : GaugeWeekend.class.getDeclaredFields()) {
            String value = f.getName().equals("NONE") ? " = " + GaugeWeekend.NONE : "";
            add(members, f.getModifiers(), f.isSynthetic(), f + value);
        }
        return members;
    }

    private static void add(Set<String> members, int modifiers, boolean isMadeUp, String told) {
        if (!Modifier.isPrivate(modifiers) && !isMadeUp) {
            members.add(told.replace("GaugeWeekend.", ""));
        }
    }

    private static void constant() {
        t.about("The constants");
        t.due("NONE", GaugeWeekend.NONE, -1);
    }

    private static void classesInside() {
        for (Class<?> inside : GaugeWeekend.class.getDeclaredClasses()) {
            t.about("LANGUAGE.md, rule 1: " + inside.getName());
            t.due("public or protected", inside.getModifiers() & (Modifier.PUBLIC | Modifier.PROTECTED), 0);
            t.due("static", inside.getModifiers() & Modifier.STATIC, Modifier.STATIC);
        }
    }

    /** Calls that look for ways and cars again and again, up to the 512th: each answers as the first. */
    private static void manyCalls() {
        GaugeWeekend x = t.chain("What it is: at most 512 calls", 15, 2);
        int calls = 15;
        for (int car = 0; car < 30; car++, calls++) {
            x.car(car % 16, car % 3);
        }
        for (int place = 0; place < 16; place++, calls++) {
            x.shop(place, place % 2);
        }
        while (calls < 510) {
            t.dueTaken(x, "way at call " + calls, x.way(0, 0, false, 15), 30);
            t.due("step at call " + calls, x.step(-1), 15);
            t.dueTaken(x, "pushed at call " + calls, x.pushed(6), 30);
            t.due("has at call " + calls, x.has(29), 1);
            calls += 6;
        }
        t.due("calls so far", calls, 511);
        t.due("call 512", x.comes(0, 15), 30);
    }
}
