import java.io.IOException;
import java.nio.charset.StandardCharsets;
import java.nio.file.Files;
import java.nio.file.Path;
import java.util.ArrayList;
import java.util.HashMap;
import java.util.List;
import java.util.Map;
import java.util.regex.Matcher;
import java.util.regex.Pattern;

/** The rules of LANGUAGE.md that can be seen from the text of the class. It is run from the project's folder. */
public final class LanguageTest {
    private static final Check CHECK = new Check("LanguageTest");
    private static final Path FILE = Path.of("src/main/java/NoneMinds.java");

    public static void main(String[] args) throws IOException {
        String whole = Files.readString(FILE, StandardCharsets.UTF_8);
        for (int k = 0; k < whole.length(); k++) {
            char sign = whole.charAt(k);
            if (sign != '\n' && (sign < 32 || sign > 126)) CHECK.due("sign at " + k, sign, ' ');
        }
        String code = withoutComments(whole);
        words(code);
        library(code);
        classes(code);
        loops(code);
        methods(code.split("\n", -1));
        depth(code);
        CHECK.finish();
    }

    private static String withoutComments(String whole) {
        String open = whole.replaceAll("(?s)/\\*.*?\\*/", "").replaceAll("//[^\n]*", "");
        return open.replaceAll("\"[^\"\n]*\"", "\"\"");
    }

    private static int times(String code, String pattern) {
        Matcher m = Pattern.compile(pattern).matcher(code);
        int times = 0;
        while (m.find()) times++;
        return times;
    }

    private static void words(String code) {
        String[] none = {"throw", "throws", "try", "catch", "finally", "synchronized", "assert", "import", "package",
            "instanceof", "protected", "native", "volatile", "transient", "strictfp", "float", "double", "while",
            "hashCode", "equals", "toString", "Exception", "Error", "Object"};
        for (String word : none) CHECK.due("the word " + word, times(code, "\\b" + word + "\\b"), 0);
        CHECK.due("lambdas, arrows of switch", times(code, "->"), 0);
        CHECK.due("method references", times(code, "::"), 0);
        CHECK.due("notes to the compiler", times(code, "@"), 0);
        CHECK.due("own types of types", times(code, "<[A-Z]\\w*>"), 0);
    }

    /** What stands ahead of a point, and is no own name: only what rule 4 lists. */
    private static void library(String code) {
        Matcher m = Pattern.compile("\\b([A-Z][a-zA-Z]*)\\.(\\w+)\\(").matcher(code);
        List<String> listed = List.of("Math.min", "Math.max", "Math.abs", "Integer.bitCount", "Integer.compare",
                "System.arraycopy");
        while (m.find()) {
            String call = m.group(1) + "." + m.group(2);
            CHECK.holds(call + " is in the library", listed.contains(call));
        }
    }

    private static void classes(String code) {
        CHECK.due("public classes", times(code, "public final class"), 1);
        int all = times(code, "\\b(class|enum|record|interface) [A-Z]");
        CHECK.holds("at most twelve classes: " + all, all <= 12);
        CHECK.due("classes inside are private, static and final", times(code, "private static final class"), all - 1);
    }

    private static void loops(String code) {
        for (Matcher m = Pattern.compile("for \\(([^\n]*)").matcher(code); m.find();) {
            CHECK.holds("a loop with a bound: " + m.group(1), m.group(1).matches("int \\w+ = [^;]+; [^;]*(<|<=|>=) [^;]+; \\w+(\\+\\+|--)\\).*|int .*[:].*"));
        }
        CHECK.due("loops of do", times(code, "\\bdo\\b"), 0);
    }

    private static void methods(String[] lines) {
        Pattern head = Pattern.compile("^( +)(public|private|static|final|int|boolean|void|[A-Z]\\w*)[^=;]*\\(([^)]*)\\) \\{$");
        List<String> names = new ArrayList<>();
        for (int k = 0; k < lines.length; k++) {
            Matcher m = head.matcher(lines[k]);
            if (!m.matches()) continue;
            int end = k;
            while (end < lines.length - 1 && !lines[end].equals(m.group(1) + "}")) end++;
            names.add(lines[k].trim());
            CHECK.holds("some sixty lines at most: " + lines[k].trim(), end - k <= 60);
            int takes = m.group(3).isEmpty() ? 0 : m.group(3).split(",").length;
            CHECK.holds("seven parameters at most: " + lines[k].trim(), takes <= 7);
        }
        CHECK.holds("methods were found: " + names.size(), names.size() > 60);
    }

    /**
     * How deep calls go, told by names alone: methods of the same name in two classes count as one, which makes it
     * deeper, never less deep. A call of itself would come up as a depth above every bound.
     */
    private static void depth(String code) {
        Map<String, String> bodies = new HashMap<>();
        Matcher m = Pattern.compile("(?m)^( +)[^\\s=;/][^=;\n]*?\\b(\\w+)\\([^)\n]*\\) \\{$").matcher(code);
        while (m.find()) {
            if (List.of("for", "if", "switch").contains(m.group(2))) continue;
            int end = code.indexOf("\n" + m.group(1) + "}", m.end());
            bodies.merge(m.group(2), code.substring(m.end(), end), String::concat);
        }
        CHECK.holds("bodies were found: " + bodies.size(), bodies.size() > 60);
        for (String name : bodies.keySet()) {
            int depth = depthOf(name, bodies, 0);
            CHECK.holds("at most eight deep: " + name + " goes " + depth, depth <= 8);
        }
    }

    private static int depthOf(String name, Map<String, String> bodies, int above) {
        if (above > 30) return 1;
        int deepest = 0;
        Matcher m = Pattern.compile("\\b(\\w+)\\(").matcher(bodies.get(name));
        while (m.find()) {
            if (bodies.containsKey(m.group(1))) deepest = Math.max(deepest, depthOf(m.group(1), bodies, above + 1));
        }
        return 1 + deepest;
    }
}
