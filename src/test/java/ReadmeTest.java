import java.io.IOException;
import java.nio.file.Files;
import java.nio.file.Path;
import java.util.ArrayList;
import java.util.List;
import java.util.Map;
import java.util.Set;
import java.util.TreeMap;
import java.util.TreeSet;
import java.util.regex.Matcher;
import java.util.regex.Pattern;
import java.util.stream.Stream;

/** README.md: its examples, its tables of calls, and the files that it names. */
public final class ReadmeTest {
    private static final Path PAGE = Path.of("README.md");
    private static final Path DOCUMENT = Path.of("../shared/DOC.md");
    private static final Path TESTS = Path.of("src/test/java");

    private static final Pattern BLOCK = Pattern.compile("```java\n(.*?)```", Pattern.DOTALL);
    private static final Pattern TEXT_BLOCK = Pattern.compile("\"\"\"\n(.*?)\"\"\"", Pattern.DOTALL);
    private static final Pattern NEW = Pattern.compile("(HotLetters )?x = new HotLetters\\(\\);");
    private static final Pattern TELL = Pattern.compile("tell\\(x, \"([^\"]*)\"\\);");
    private static final Pattern CALL =
            Pattern.compile("x\\.(\\w+)\\(([^)]*)\\); +// (-?\\d+|NONE|BAD|STATE|FULL): .+");
    private static final Pattern ROW = Pattern.compile("\\| `(\\w+)\\(([^)]*)\\)` \\| .* \\| ?(.*) \\|");
    private static final Pattern PROMISE = Pattern.compile("`(?:int|long) (\\w+)\\(([^)]*)\\)`: (.*)");
    private static final Pattern FILE = Pattern.compile("\\b(\\w+)\\.java\\b");

    public static void main(String[] args) throws IOException {
        String page = Files.readString(PAGE);
        examples(page);
        calls(page);
        files(page);
        Check.end();
    }

    /** One example goes on where the one before it ended, as a reader would try them. */
    private static void examples(String page) {
        StringBuilder lines = new StringBuilder();
        int answers = 0;
        Matcher block = BLOCK.matcher(page);
        while (block.find()) {
            if (block.group(1).startsWith("static void tell")) {
                continue;
            }
            Matcher run = TEXT_BLOCK.matcher(block.group(1));
            if (run.find()) {
                Script.play("README, a run of EdgesTest", run.group(1));
                continue;
            }
            for (String line : block.group(1).split("\n")) {
                lines.append(scriptOf(line)).append('\n');
                answers += CALL.matcher(line).matches() ? 1 : 0;
            }
        }
        Check.holds("README has examples", answers > 0);
        Script.play("README", lines.toString());
    }

    private static String scriptOf(String line) {
        Matcher tell = TELL.matcher(line);
        Matcher call = CALL.matcher(line);
        if (NEW.matcher(line).matches()) {
            return "new";
        }
        if (tell.matches()) {
            return "tape " + tell.group(1);
        }
        if (call.matches()) {
            return (call.group(1) + " " + call.group(2).replace(",", "")).trim() + " = " + call.group(3);
        }
        Check.holds("README: an example's line is a call with its answer: " + line, false);
        return "";
    }

    private static void calls(String page) throws IOException {
        Map<String, String> rows = new TreeMap<>();
        for (String line : page.split("\n")) {
            Matcher row = ROW.matcher(line);
            if (row.matches()) {
                rows.put(row.group(1) + "(" + row.group(2) + ")", row.group(3).replace("`", "").trim());
            }
        }
        rows.forEach(ReadmeTest::refusedWithoutNet);
        if (!Files.isReadable(DOCUMENT)) {
            System.out.println("no ../shared/DOC.md here: the tables are not held against it");
            return;
        }
        Map<String, String> due = promises();
        Set<String> all = new TreeSet<>(rows.keySet());
        all.addAll(due.keySet());
        for (String call : all) {
            String told = rows.get(call);
            String wanted = due.get(call);
            Check.holds("README: refusals of " + call + " are " + wanted + ", not " + told,
                    told != null && told.equals(wanted));
        }
    }

    /** Each call of the document with the refusals that its promise names, in their order. */
    private static Map<String, String> promises() throws IOException {
        Map<String, String> due = new TreeMap<>();
        for (String line : Files.readAllLines(DOCUMENT)) {
            Matcher promise = PROMISE.matcher(line);
            if (promise.matches()) {
                String numbers = promise.group(2).replace("int ", "");
                due.put(promise.group(1) + "(" + numbers + ")", refusalsOf(promise.group(3)));
            }
        }
        return due;
    }

    private static String refusalsOf(String text) {
        List<String> all = new ArrayList<>();
        boolean ahead = text.contains("no NET (ahead of BAD)");
        for (String refusal : List.of("BAD", "STATE", "FULL")) {
            // "ahead of BAD" is no refusal of its own, but such a call has wrong numbers as well.
            if (Pattern.compile("\\b" + refusal + "\\b").matcher(text).find()) {
                all.add(refusal);
            }
        }
        if (ahead) {
            all.remove("STATE");
            all.add(0, "STATE*");
        }
        return String.join(", ", all);
    }

    /** A new object answers wrong numbers by the first refusal of the row. */
    private static void refusedWithoutNet(String call, String refusals) {
        if (refusals.isEmpty()) {
            return;
        }
        String name = call.substring(0, call.indexOf('('));
        long commas = call.chars().filter(letter -> letter == ',').count();
        int numbers = call.endsWith("()") ? 0 : (int) commas + 1;
        String first = refusals.split(", ")[0].replace("*", "");
        Script.play("README, the table", "new\n" + name + " -1".repeat(numbers) + " = " + first);
    }

    private static void files(String page) throws IOException {
        Set<String> named = new TreeSet<>();
        Matcher file = FILE.matcher(page);
        while (file.find()) {
            named.add(file.group(1));
        }
        Set<String> there = new TreeSet<>(Set.of("HotLetters"));
        try (Stream<Path> all = Files.list(TESTS)) {
            all.map(path -> path.getFileName().toString().replace(".java", "")).forEach(there::add);
        }
        for (String name : there) {
            Check.holds("README names " + name + ".java", named.contains(name));
        }
        for (String name : named) {
            Check.holds(name + ".java, which README names, is there", there.contains(name));
        }
    }
}
