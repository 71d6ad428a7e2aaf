import java.io.IOException;

/** Every sentence of the document has a test that quotes it, with its promise's number. */
public final class SentencesTest {
    public static void main(String[] args) throws IOException {
        Calls calls = new Calls("SentencesTest");
        Document document = Document.shared();
        Sentences sentences = new Sentences(calls, document);
        SentencesOfTheWhole.tell(sentences);
        SentencesOfTheChip.tell(sentences);
        SentencesOfNets.tell(sentences);
        SentencesOfScripts.tell(sentences);
        SentencesOfTexts.tell(sentences);
        SentencesOfErrors.tell(sentences);
        if (document.isThere()) {
            calls.due("the document", "promises", document.promises(), 28);
        } else {
            System.out.println("SentencesTest: there is no ../shared/DOC.md, so that no quote was compared with it");
        }
        for (String sentence : document.notQuoted()) {
            calls.holds("there is a test for " + sentence, false);
        }
        calls.end();
    }
}
