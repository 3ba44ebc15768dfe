import java.io.IOException;
import java.nio.file.Files;
import java.nio.file.Path;

/**
 * Runs tests under sentences of the document. Each sentence is quoted word for word under its
 * heading, so that it can be found there; one that does not stand there is a fault of the test.
 */
final class Sentences {
    private static final Path DOCUMENT = Path.of("../shared/DOC.md");

    private final Checks checks = new Checks();
    private final String document = read();
    private String heading = "";
    private String sentence = "";
    private int dues;

    void under(String newHeading) {
        heading = newHeading;
    }

    void says(String quoted, Runnable test) {
        sentence = quoted;
        due("the sentence stands under this heading", isInDocument() ? 1 : 0, 1);
        dues = 0;
        run(test);
        due("the sentence has a test", dues > 0 ? 1 : 0, 1);
    }

    /** No call of the face throws; if one does, the tests of the other sentences run all the same. */
    private void run(Runnable test) {
        try {
            test.run();
        } catch (RuntimeException | StackOverflowError e) {
            due("a call threw " + e, 0, 1);
        }
    }

    void due(String call, long got, long want) {
        dues++;
        checks.due(heading + ": \"" + sentence + "\": " + call, got, want);
    }

    /** The two texts are alike; the second is the one that is due. */
    void same(String what, String got, String want) {
        due(what + ": " + got + ", due is " + want, got.equals(want) ? 1 : 0, 1);
    }

    void end() {
        checks.end();
    }

    private boolean isInDocument() {
        if (document.isEmpty()) {
            return true;
        }
        int from = document.indexOf("## " + heading + "\n");
        if (from < 0) {
            return false;
        }
        int next = document.indexOf("\n## ", from);
        String section = document.substring(from, next < 0 ? document.length() : next);
        return inOneLine(section).contains(inOneLine(sentence));
    }

    private static String inOneLine(String text) {
        return text.replaceAll("\\s+", " ");
    }

    private static String read() {
        try {
            return Files.readString(DOCUMENT);
        } catch (IOException e) {
            System.out.println(DOCUMENT + " can't be read: the quotations are not looked up");
            return "";
        }
    }
}
