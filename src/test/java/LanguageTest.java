import java.io.IOException;
import java.nio.file.Files;
import java.nio.file.Path;
import java.util.ArrayList;
import java.util.List;
import java.util.regex.Matcher;
import java.util.regex.Pattern;

/** Those rules of LANGUAGE.md that can be told from the program's text; its path is the argument. */
public final class LanguageTest {
    private static final Checks t = new Checks();

    public static void main(String[] args) throws IOException {
        String whole = Files.readString(Path.of(args.length > 0 ? args[0] : "src/main/java/GaugeWeekend.java"));
        String code = whole.replaceAll("(?s)/\\*.*?\\*/", "").replaceAll("//[^\n]*", "");
        String bare = code.replaceAll("\"[^\"\n]*\"", "\"\"").replaceAll("'[^'\n]*'", "' '");
        t.about("LANGUAGE.md");
        dueNone("rule 4, signs", whole, "[^\\x01-\\x7f]");
        dueNone("rules 2, 5, 6, words", bare,
                "\\b(throws?|try|catch|finally|synchronized|assert|package|protected|var|volatile|transient|native|yield)\\b");
        dueNone("rule 2, lambdas and method references", bare, "->|::");
        dueNone("rule 2, local and anonymous classes", bare, "new \\w+(<\\w*>)?\\([^()]*\\)\\s*\\{");
        dueNone("rule 4, imports", bare, "import (?!java\\.util\\.Arrays;)[^\n]*");
        dueNone("rule 4, library", bare, "\\b(System\\.(?!arraycopy\\()|Arrays\\.(?!(copyOf|copyOfRange|fill)\\()|\\w*Exact\\()\\w*");
        dueNone("rule 5, statics", bare, "static (?!final |\\w+(\\[\\])? \\w+\\()[^\n]*");
        dueNone("rule 10, texts joined by +", bare, "\"\" \\+|\\+ \"\"");
        dueNone("rule 12, objects made in calls", bare,
                "\n(?! {4,8}private (final )?\\S+ \\w+ = new | {8}\\w+ = new \\w+\\(\\);)[^\n]*\\bnew [^\n]*");
        methods(bare);
        classes(bare);
        t.close();
    }

    private static void dueNone(String rule, String text, String pattern) {
        List<String> found = new ArrayList<>();
        Matcher m = Pattern.compile(pattern).matcher(text);
        while (m.find()) {
            found.add(m.group().trim());
        }
        t.due(rule + " " + found, found.size(), 0);
    }

    /** Rules 1 and 11: names, parameters and lengths of methods. */
    private static void methods(String bare) {
        List<String> publicNames = new ArrayList<>();
        List<String> otherNames = new ArrayList<>();
        Matcher m = Pattern.compile("\n( {4}| {8})((?:public |private |static )*)[\\w\\[\\]]+ (\\w+)\\(([^)]*)\\) \\{").matcher(bare);
        while (m.find()) {
            String name = m.group(3);
            (m.group(2).startsWith("public") ? publicNames : otherNames).add(name);
            int end = bare.indexOf("\n" + m.group(1) + "}", m.end());
            long lines = bare.substring(m.start(), end).lines().count();
            t.due("rule 11, lines of " + name + " above 60", lines > 60 ? lines : 0, 0);
            t.due("rule 11, parameters of " + name, m.group(4).split(",").length > 7 ? 1 : 0, 0);
        }
        t.due("rule 1, public methods", publicNames.size(), 24);
        otherNames.retainAll(publicNames);
        t.due("rule 1, other methods with a public name " + otherNames, otherNames.size(), 0);
    }

    /** Rule 11: so many classes, and fields beside constants in each. */
    private static void classes(String bare) {
        String[] parts = bare.split("\\bclass ");
        t.due("rule 11, classes above 12", parts.length - 1 > 12 ? parts.length - 1 : 0, 0);
        for (int i = 1; i < parts.length; i++) {
            Matcher m = Pattern.compile("\n {4,8}private (?!static)[^(;=]*[=;]").matcher(parts[i]);
            int fields = 0;
            while (m.find()) {
                fields++;
            }
            t.due("rule 11, fields above 20 of " + parts[i].substring(0, parts[i].indexOf(' ')), fields > 20 ? fields : 0, 0);
        }
    }
}
