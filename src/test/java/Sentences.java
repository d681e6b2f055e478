import java.io.IOException;
import java.nio.file.Files;
import java.nio.file.Path;
import java.util.BitSet;

/**
 * Runs a test for each sentence of the document, under the promise's name and the sentence's own words.
 * The words must stand in the document where they are said to stand, and no word there may be left
 * without a test.
 */
final class Sentences {
    interface Test {
        void ask(Due due);
    }

    private static final Path PLACE = Path.of("../shared/DOC.md");
    private static final String TERMS = "Terms";

    private final Due due = new Due();
    /** Empty where the document is not at hand: then the tests run all the same. */
    private final String document;
    private final BitSet quoted = new BitSet();
    private int count = 0;

    Sentences() throws IOException {
        if (Files.isReadable(PLACE)) {
            String told = Files.readString(PLACE);
            document = told.replaceAll("```\\w*", " ").replaceAll("[ \\t\\r]+", " ").replace("\n ", "\n");
        } else {
            document = "";
            System.out.println("the document is not at " + PLACE + ": the words of its sentences are not compared");
        }
    }

    /** A sentence that stands under the promise itself. */
    void holds(String promise, String words, Test test) {
        ask(promise, promise, words, test);
    }

    /** A sentence of the section Terms, asked for by the promise's calls. */
    void term(String promise, String words, Test test) {
        ask(TERMS, promise, words, test);
    }

    private void ask(String heading, String promise, String words, Test test) {
        String where = heading.equals(promise) ? promise : promise + ", by " + heading;
        due.under("[" + where + ": \"" + words + "\"] ");
        quote(heading, words);
        int before = due.asked();
        try {
            test.ask(due);
        } catch (RuntimeException | AssertionError e) {
            due.wrong("the test itself ended with " + e);
        }
        if (due.asked() == before) {
            due.wrong("the test asks for no answer");
        }
        count++;
    }

    /** All words under these headings were quoted by tests. */
    void wholeOf(String... headings) {
        due.under("");
        for (String heading : headings) {
            noWordLeft(heading);
        }
    }

    private void noWordLeft(String heading) {
        if (document.isEmpty()) {
            return;
        }
        int start = startOf(heading);
        int end = endOf(heading);
        if (start < 0) {
            due.wrong("the document has no heading " + heading);
            return;
        }
        for (int i = quoted.nextClearBit(start); i < end; i = quoted.nextClearBit(i + 1)) {
            if (Character.isLetterOrDigit(document.charAt(i))) {
                int next = quoted.nextSetBit(i);
                int stop = next < 0 ? end : Math.min(end, next);
                due.wrong("no test under " + heading + ": " + document.substring(i, stop).trim());
                i = stop;
            }
        }
    }

    void end() {
        System.out.println(count + " sentences or parts of one");
        due.end();
    }

    private void quote(String heading, String words) {
        if (document.isEmpty()) {
            return;
        }
        int found = startOf(heading) < 0 ? -1 : document.indexOf(words, startOf(heading));
        if (found < 0 || found + words.length() > endOf(heading)) {
            due.wrong("the document does not say this");
        } else {
            quoted.set(found, found + words.length());
        }
    }

    /** Behind the heading, and behind the signature that a promise begins with. */
    private int startOf(String heading) {
        int line = document.indexOf("## " + heading + "\n");
        if (line < 0) {
            return -1;
        }
        int start = line + heading.length() + 4;
        boolean hasSignature = document.startsWith("`", skipBlanks(start));
        return hasSignature ? document.indexOf("`: ", start) + 3 : start;
    }

    private int skipBlanks(int start) {
        int i = start;
        while (i < document.length() && Character.isWhitespace(document.charAt(i))) {
            i++;
        }
        return i;
    }

    private int endOf(String heading) {
        int next = document.indexOf("\n## ", startOf(heading));
        return next < 0 ? document.length() : next;
    }
}
