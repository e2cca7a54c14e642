import java.io.IOException;
import java.io.UncheckedIOException;

/** Runs of calls, each for a sentence of the document that is quoted with it. */
final class Edges {
    private static final Document DOCUMENT = read();

    private static String part = "";

    private Edges() {
    }

    /** Without the document the runs are made all the same; only the quotes are not looked up. */
    private static Document read() {
        if (!Document.isHere()) {
            System.out.println("no ../shared/DOC.md here: quotes are not looked up");
            return null;
        }
        try {
            return new Document();
        } catch (IOException e) {
            throw new UncheckedIOException(e);
        }
    }

    /** The part of the document in which the next quotes stand. */
    static void part(String name) {
        part = name;
    }

    static void says(String words, String lines) {
        if (DOCUMENT != null) {
            Check.holds("the document says in " + part + ": " + words, DOCUMENT.quote(part, words));
        }
        Script.play(part + ", \"" + words + "\"", lines);
    }

    static void noneIsLeftOut() {
        if (DOCUMENT == null) {
            return;
        }
        for (String sentence : DOCUMENT.unquoted()) {
            Check.holds("a test for what the document says in " + sentence, false);
        }
        Check.due("promises of the document", DOCUMENT.promises(), 33);
    }
}
