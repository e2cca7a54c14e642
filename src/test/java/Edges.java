import java.io.IOException;
import java.io.UncheckedIOException;

/** Runs of calls, each for a sentence of the document that is quoted with it. */
final class Edges {
    private static final Document DOCUMENT = read();

    private static String part = "";

    private Edges() {
    }

    private static Document read() {
        try {
            return new Document();
        } catch (IOException e) {
            throw new UncheckedIOException(e);
        }
    }

    /** The part of the document in which the next quotes stand. */
    static void part(String name) {
        part = name;
    }

    static void says(String words, String lines) {
        Check.holds("the document says in " + part + ": " + words, DOCUMENT.quote(part, words));
        Script.play(part + ", \"" + words + "\"", lines);
    }

    static void noneIsLeftOut() {
        for (String sentence : DOCUMENT.unquoted()) {
            Check.holds("a test for what the document says in " + sentence, false);
        }
        Check.due("promises of the document", DOCUMENT.promises(), 33);
    }
}
