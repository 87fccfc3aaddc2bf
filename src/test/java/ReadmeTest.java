import java.io.IOException;
import java.nio.charset.StandardCharsets;
import java.nio.file.Files;
import java.nio.file.Path;
import java.util.ArrayList;
import java.util.List;
import java.util.Set;
import java.util.TreeSet;
import java.util.concurrent.TimeUnit;
import java.util.regex.Matcher;
import java.util.regex.Pattern;
import java.util.stream.Collectors;
import java.util.stream.Stream;

/**
 * README.md as it stands there: its Java is compiled and each call answers what is told, its commands end well and
 * print what is told, its tables name what there is. It is run from the project's folder.
 */
public final class ReadmeTest {
    private static final Check CHECK = new Check("ReadmeTest");
    private static final Path OUT = Path.of("build", "readme");
    private static final Pattern BLOCK = Pattern.compile("(?ms)^```(\\w*)\\n(.*?)^```$");
    private static final Pattern CALL = Pattern.compile("(table\\.(\\w+)\\([^()]*\\));\\s*(.*)");
    private static final Pattern ANSWER = Pattern.compile("// (\\d+|(BAD|NO|FULL|NONE) \\((-\\d)\\))(: .+)?");
    private static final Pattern OTHER = Pattern.compile(
            "|// .*|NoneMinds table = new NoneMinds\\(\\);|for \\(char letter : \"[^\"]*\"\\.toCharArray\\(\\)\\) table\\.write\\(letter\\);");

    private static final Set<String> ASKED = new TreeSet<>();
    private static final Set<String> REFUSALS = new TreeSet<>();

    public static void main(String[] args) throws IOException, InterruptedException {
        String page = Files.readString(Path.of("README.md"), StandardCharsets.UTF_8);
        List<String> java = new ArrayList<>();
        Matcher m = BLOCK.matcher(page);
        int behind = 0;
        String printed = null;
        while (m.find()) {
            String block = m.group(2);
            switch (m.group(1)) {
                case "java":
                    java.add(block);
                    break;
                case "sh":
                    printed = command(block);
                    break;
                case "text":
                    CHECK.holds("printed is\n" + printed + "and told\n" + block, block.equals(printed));
                    break;
                default:
                    CHECK.holds("a block of " + m.group(1) + " is none that is tested", false);
            }
            behind = m.end();
        }
        CHECK.holds("no block is left open", !page.substring(behind).contains("```"));
        blocks(java);
        named(page);
        CHECK.finish();
    }

    /** What it prints; the script that runs this test is looked at only, as it would call itself without an end. */
    private static String command(String block) throws IOException, InterruptedException {
        if (block.equals(".ci/run\n")) {
            CHECK.holds(".ci/run can be run", Files.isExecutable(Path.of(".ci", "run")));
            return null;
        }
        CHECK.holds("a block does not run every test: " + block, !block.contains(".ci/run"));
        return run("sh", "-e", "-c", block);
    }

    private static String run(String... command) throws IOException, InterruptedException {
        Files.createDirectories(OUT);
        Path printed = OUT.resolve("printed.txt");
        Process p = new ProcessBuilder(command).redirectErrorStream(true).redirectOutput(printed.toFile()).start();
        p.getOutputStream().close();
        boolean ended = p.waitFor(300, TimeUnit.SECONDS);
        if (!ended) p.destroyForcibly();
        String text = Files.readString(printed, StandardCharsets.UTF_8);
        boolean well = ended && p.exitValue() == 0;
        CHECK.holds(String.join(" ", command) + "\nends well, printed is\n" + text, well);
        return text;
    }

    /** Each block twice: as it stands there, and with each call asked for its answer. */
    private static void blocks(List<String> java) throws IOException, InterruptedException {
        StringBuilder code = new StringBuilder("public final class Blocks {\n    private static int wrong;\n\n"
                + "    private static void due(String call, int got, int want) {\n"
                + "        if (got == want) return;\n        wrong++;\n"
                + "        System.out.println(call + \" answered \" + got + \", told is \" + want);\n    }\n");
        StringBuilder all = new StringBuilder();
        for (int k = 0; k < java.size(); k++) {
            code.append("\n    private static void plain").append(k).append("() {\n").append(java.get(k)).append("    }\n");
            code.append("\n    private static void asked").append(k).append("() {\n").append(asking(java.get(k))).append("    }\n");
            all.append("        plain").append(k).append("();\n        asked").append(k).append("();\n");
        }
        code.append("\n    public static void main(String[] args) {\n").append(all)
                .append("        if (wrong != 0) System.exit(1);\n    }\n}\n");
        Files.createDirectories(OUT);
        Files.writeString(OUT.resolve("Blocks.java"), code, StandardCharsets.UTF_8);
        run("javac", "-Xlint:all", "-Werror", "-d", OUT.toString(), "src/main/java/NoneMinds.java", OUT + "/Blocks.java");
        run("java", "-cp", OUT.toString(), "Blocks");
        CHECK.holds("each call is told with an answer: " + ASKED, ASKED.equals(new TreeSet<>(List.of(Run.CALLS))));
        CHECK.holds("each of the four is an answer: " + REFUSALS, REFUSALS.equals(Set.of("BAD", "NO", "FULL", "NONE")));
    }

    private static String asking(String block) {
        CHECK.holds("a block makes its table: " + block, block.startsWith("NoneMinds table = new NoneMinds();\n"));
        StringBuilder asking = new StringBuilder();
        for (String line : block.split("\n")) {
            Matcher call = CALL.matcher(line);
            if (!call.matches()) {
                CHECK.holds("a line that can be tested: " + line, OTHER.matcher(line).matches());
                asking.append(line).append('\n');
                continue;
            }
            Matcher answer = ANSWER.matcher(call.group(3));
            CHECK.holds("a call with its answer: " + line, answer.matches());
            if (!answer.matches()) continue;
            ASKED.add(call.group(2));
            String want = answer.group(1);
            if (answer.group(2) != null) {
                REFUSALS.add(answer.group(2));
                want = "NoneMinds." + answer.group(2);
                asking.append("due(\"").append(want).append("\", ").append(want).append(", ").append(answer.group(3)).append(");\n");
            }
            String told = call.group(1).replace("\"", "\\\"");
            asking.append("due(\"").append(told).append("\", ").append(call.group(1)).append(", ").append(want).append(");\n");
        }
        return asking.toString();
    }

    /** The table of refusals, the table of tests, the first table's text, the files that are named. */
    private static void named(String page) throws IOException {
        String[] names = {"BAD", "NO", "FULL", "NONE"};
        int[] numbers = {NoneMinds.BAD, NoneMinds.NO, NoneMinds.FULL, NoneMinds.NONE};
        for (int k = 0; k < names.length; k++) {
            CHECK.due("rows of " + names[k], times(page, "(?m)^\\| `" + names[k] + "` \\| " + numbers[k] + " \\| .+ \\|$"), 1);
        }
        Set<String> told = new TreeSet<>();
        for (Matcher m = Pattern.compile("(?m)^\\| `(\\w+Test)` \\| .+ \\|$").matcher(page); m.find();) {
            CHECK.holds(m.group(1) + " is told once", told.add(m.group(1)));
        }
        try (Stream<Path> files = Files.list(Path.of("src", "test", "java"))) {
            Set<String> there = files.map(f -> f.getFileName().toString()).filter(f -> f.endsWith("Test.java"))
                    .map(f -> f.substring(0, f.length() - 5)).collect(Collectors.toCollection(TreeSet::new));
            CHECK.holds("the tests that are told " + told + " are those that there are " + there, told.equals(there));
        }
        CHECK.holds("the first table's text", page.contains("`d4;g05371;g18806;g22496;g37027;g04444;g09153;t0,30;t2,45;v1;s90;h20;`"));
        for (Matcher m = Pattern.compile("`((?:\\.\\.?/|src/|[A-Z]+\\.md)[^`*]*)`").matcher(page); m.find();) {
            CHECK.holds("there is " + m.group(1), Files.exists(Path.of(m.group(1))));
        }
    }

    private static int times(String page, String pattern) {
        int times = 0;
        for (Matcher m = Pattern.compile(pattern).matcher(page); m.find();) times++;
        return times;
    }
}
