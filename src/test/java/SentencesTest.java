import java.io.IOException;

/** A test for each sentence of the document, or for each part of one that names a case of its own. */
public final class SentencesTest {
    private static final String[] HEADINGS = {
        BeginningSentences.BEGINNING, "Terms",
        "Promise 1: A new object", "Promise 2: type", "Promise 3: cut", "Promise 4: load", "Promise 5: write", "Promise 6: out",
        "Promise 7: man", "Promise 8: about", "Promise 9: attackers", "Promise 10: moves", "Promise 11: move", "Promise 12: play",
        "Promise 13: back", "Promise 14: played", "Promise 15: occurrence", "Promise 16: result", "Promise 17: claims",
        "Promise 18: ways",
    };

    public static void main(String[] args) throws IOException {
        Sentences sentences = new Sentences();
        BeginningSentences.tell(sentences);
        TextSentences.tell(sentences);
        LoadSentences.tell(sentences);
        PositionSentences.tell(sentences);
        MoveSentences.tell(sentences);
        PlaySentences.tell(sentences);
        EndSentences.tell(sentences);
        sentences.wholeOf(HEADINGS);
        sentences.end();
    }
}
