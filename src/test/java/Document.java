import java.io.IOException;
import java.nio.file.Files;
import java.nio.file.Path;
import java.util.ArrayList;
import java.util.LinkedHashMap;
import java.util.List;
import java.util.Map;
import java.util.regex.Matcher;
import java.util.regex.Pattern;

/**
 * ../shared/DOC.md in parts ("What it is", "Terms", "Terms 1" to "Terms 4", "Promise 1" to
 * "Promise 33"), and which of its sentences a test has quoted.
 */
final class Document {
    private static final Path FILE = Path.of("../shared/DOC.md");
    // Where a call is told by its types, or in which order calls stand: nothing to break there.
    private static final Pattern NO_SENTENCE = Pattern.compile("`[^`]*`: |Ahead of the calls .*");
    private static final Pattern SENTENCE = Pattern.compile("[^.;]+[.;]?");

    private final Map<String, String> texts = new LinkedHashMap<>();
    private final Map<String, boolean[]> quoted = new LinkedHashMap<>();

    static boolean isHere() {
        return Files.isReadable(FILE);
    }

    Document() throws IOException {
        String part = "";
        StringBuilder text = new StringBuilder();
        for (String line : Files.readAllLines(FILE)) {
            Matcher heading = Pattern.compile("## (Promise \\d+|.*?)(:.*)?").matcher(line);
            Matcher chapter = Pattern.compile("======== (\\d) (.*)").matcher(line);
            if (heading.matches()) {
                close(part, text);
                part = heading.group(1);
            } else if (chapter.matches()) {
                close(part, text);
                part = "Terms " + chapter.group(1);
                text.append(chapter.group(2)).append(' ');
            } else if (!line.startsWith("```")) {
                text.append(line).append(' ');
            }
        }
        close(part, text);
    }

    private void close(String part, StringBuilder text) {
        String plain = NO_SENTENCE.matcher(text).replaceAll("").replaceAll("\\s+", " ").trim();
        texts.put(part, plain);
        quoted.put(part, new boolean[plain.length()]);
        text.setLength(0);
    }

    /** Whether the part has these words; if so, they are quoted from now on. */
    boolean quote(String part, String words) {
        int start = texts.getOrDefault(part, "").indexOf(words);
        for (int i = start; start >= 0 && i < start + words.length(); i++) {
            quoted.get(part)[i] = true;
        }
        return start >= 0;
    }

    /** Of the terms and promises each sentence, or half of one, of which no word is quoted. */
    List<String> unquoted() {
        List<String> left = new ArrayList<>();
        for (Map.Entry<String, String> entry : texts.entrySet()) {
            if (!entry.getKey().matches("(Terms|Promise).*")) {
                continue;
            }
            Matcher sentence = SENTENCE.matcher(entry.getValue());
            while (sentence.find()) {
                boolean known = sentence.group().isBlank();
                for (int i = sentence.start(); i < sentence.end(); i++) {
                    known |= quoted.get(entry.getKey())[i];
                }
                if (!known) {
                    left.add(entry.getKey() + ": " + sentence.group().trim());
                }
            }
        }
        return left;
    }

    int promises() {
        return (int) texts.keySet().stream().filter(part -> part.startsWith("Promise ")).count();
    }
}
