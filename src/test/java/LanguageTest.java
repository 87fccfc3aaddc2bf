import java.io.IOException;
import java.nio.charset.StandardCharsets;
import java.nio.file.Files;
import java.nio.file.Path;
import java.util.ArrayList;
import java.util.HashMap;
import java.util.List;
import java.util.Map;
import java.util.regex.Matcher;
import java.util.regex.Pattern;

/** The rules of LANGUAGE.md that can be seen from the text of the class. It is run from the project's folder. */
public final class LanguageTest {
    private static final Check CHECK = new Check("LanguageTest");
    private static final Path FILE = Path.of("src/main/java/NoneMinds.java");

    public static void main(String[] args) throws IOException {
        String whole = Files.readString(FILE, StandardCharsets.UTF_8);
        for (int k = 0; k < whole.length(); k++) {
            char sign = whole.charAt(k);
            if (sign != '\n' && (sign < 32 || sign > 126)) CHECK.due("sign at " + k, sign, ' ');
        }
        String code = withoutComments(whole);
        words(code);
        names(code);
        library(code);
        classes(code);
        loops(code);
        methods(code.split("\n", -1));
        depth(code);
        CHECK.finish();
    }

    private static String withoutComments(String whole) {
        String open = whole.replaceAll("(?s)/\\*.*?\\*/", "").replaceAll("//[^\n]*", "");
        return open.replaceAll("\"[^\"\n]*\"", "\"\"");
    }

    private static int times(String code, String pattern) {
        Matcher m = Pattern.compile(pattern).matcher(code);
        int times = 0;
        while (m.find()) times++;
        return times;
    }

    private static void words(String code) {
        String[] none = {"throw", "throws", "try", "catch", "finally", "synchronized", "assert", "package", "protected",
            "native", "volatile", "transient", "strictfp", "hashCode"};
        for (String word : none) CHECK.due("the word " + word, times(code, "\\b" + word + "\\b"), 0);
        CHECK.due("calls whose name ends in Exact", times(code, "Exact\\("), 0);
        CHECK.due("own equals and toString", times(code, "boolean equals\\(|String toString\\("), 0);
        CHECK.due("method references", times(code, "::"), 0);
        CHECK.due("lambdas", times(code, "(?<!default|case [\\w, ]{1,60}) ->"), 0);
        CHECK.due("classes without a name", times(code, "\\bnew \\w+(<\\w*>)?\\([^;{]*\\) \\{"), 0);
        CHECK.due("initialisers of a class", times(code, "\\bstatic \\{"), 0);
        CHECK.due("texts that are joined by +", times(code, "\"\" \\+|\\+ \"\""), 0);
        for (Matcher m = Pattern.compile("import ([^;]*);").matcher(code); m.find();) {
            CHECK.holds("import of " + m.group(1), m.group(1).matches("java\\.util\\.(ArrayList|List|Arrays|Iterator)"));
        }
    }

    /** Each name that begins with a large letter is an own class, a constant, or in the library of rules 3 and 4. */
    private static void names(String code) {
        List<String> known = new ArrayList<>(List.of("String", "StringBuilder", "Integer", "Long", "Math", "System",
                "Arrays", "ArrayList", "List", "Iterator", "Iterable", "Comparable", "Override"));
        Matcher own = Pattern.compile("\\b(?:class|enum|record|interface) (\\w+)").matcher(code);
        while (own.find()) known.add(own.group(1));
        for (Matcher m = Pattern.compile("\\b[A-Z]\\w*").matcher(code); m.find();) {
            CHECK.holds("the name " + m.group() + " is known", m.group().matches("[A-Z][A-Z_0-9]*") || known.contains(m.group()));
        }
    }

    /** What stands ahead of a point, and is no own name: only what rule 4 lists. */
    private static void library(String code) {
        Matcher m = Pattern.compile("\\b(Math|Integer|Long|System|Arrays|List)\\.(\\w+)\\(").matcher(code);
        while (m.find()) {
            String call = m.group(1) + "." + m.group(2);
            boolean isNumber = call.matches("(Math|Integer|Long)\\.(compare|max|min|abs|bitCount|floorDiv|floorMod|signum)");
            CHECK.holds(call + " is in the library",
                    isNumber || call.matches("System\\.arraycopy|Arrays\\.(copyOf|copyOfRange|fill)|List\\.of"));
        }
    }

    private static void classes(String code) {
        CHECK.due("public classes", times(code, "public final class"), 1);
        int all = times(code, "\\b(class|enum|record|interface) [A-Z]");
        CHECK.holds("at most twelve classes: " + all, all <= 12);
        int still = times(code, "\\bstatic (final |abstract )?class [A-Z]") + times(code, "\\b(enum|record|interface) [A-Z]");
        CHECK.due("classes inside are static", still, all - 1);
    }

    private static void loops(String code) {
        for (Matcher m = Pattern.compile("for \\(([^\n]*)").matcher(code); m.find();) {
            CHECK.holds("a loop with a bound: " + m.group(1), m.group(1).matches("[^;]*; [^;]*(<|<=|>|>=) [^;]+; [^;]*\\).*|[^;:]* : .*"));
        }
        for (Matcher m = Pattern.compile("while \\(([^\n]*)").matcher(code); m.find();) {
            CHECK.holds("a loop with a bound: " + m.group(1), m.group(1).matches(".*(<|<=|>|>=) .*"));
        }
    }

    private static void methods(String[] lines) {
        Pattern head = Pattern.compile("^( +)(public|private|static|final|int|boolean|void|[A-Z]\\w*)[^=;]*\\(([^)]*)\\) \\{$");
        List<String> names = new ArrayList<>();
        for (int k = 0; k < lines.length; k++) {
            Matcher m = head.matcher(lines[k]);
            if (!m.matches()) continue;
            int end = k;
            while (end < lines.length - 1 && !lines[end].equals(m.group(1) + "}")) end++;
            names.add(lines[k].trim());
            CHECK.holds("some sixty lines at most: " + lines[k].trim(), end - k <= 60);
            int takes = m.group(3).isEmpty() ? 0 : m.group(3).split(",").length;
            CHECK.holds("seven parameters at most: " + lines[k].trim(), takes <= 7);
        }
        CHECK.holds("methods were found: " + names.size(), names.size() > 60);
    }

    /**
     * How deep calls go, told by names alone: methods of the same name in two classes count as one, which makes it
     * deeper, never less deep. A call of itself would come up as a depth above every bound.
     */
    private static void depth(String code) {
        Map<String, String> bodies = new HashMap<>();
        Matcher m = Pattern.compile("(?m)^( +)[^\\s=;/][^=;\n]*?\\b(\\w+)\\([^)\n]*\\) \\{$").matcher(code);
        while (m.find()) {
            if (List.of("for", "if", "switch").contains(m.group(2))) continue;
            int end = code.indexOf("\n" + m.group(1) + "}", m.end());
            bodies.merge(m.group(2), code.substring(m.end(), end), String::concat);
        }
        CHECK.holds("bodies were found: " + bodies.size(), bodies.size() > 60);
        for (String name : bodies.keySet()) {
            int depth = depthOf(name, bodies, 0);
            CHECK.holds("at most eight deep: " + name + " goes " + depth, depth <= 8);
        }
    }

    private static int depthOf(String name, Map<String, String> bodies, int above) {
        if (above > 30) return 1;
        int deepest = 0;
        Matcher m = Pattern.compile("\\b(\\w+)\\(").matcher(bodies.get(name));
        while (m.find()) {
            if (bodies.containsKey(m.group(1))) deepest = Math.max(deepest, depthOf(m.group(1), bodies, above + 1));
        }
        return 1 + deepest;
    }
}
