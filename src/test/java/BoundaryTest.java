import java.io.File;
import java.io.IOException;

/** A test of its own for each sentence of the document, and a look whether one was left out. */
public final class BoundaryTest {
    private static final String SHARED = System.getProperty("shared", "../shared");

    private BoundaryTest() {
    }

    public static void main(String[] arguments) throws IOException {
        Check check = new Check();
        Document document = new Document(new File(SHARED, "DOC.md").toPath());
        Sentences[] tests = {new CauldronSentences(check, document), new TextSentences(check, document),
            new CookSentences(check, document), new TypeSentences(check, document),
            new LineSentences(check, document), new HistorySentences(check, document)};
        for (Sentences test : tests) {
            test.all();
            test.keepsToItsCalls();
        }
        for (String words : document.untold()) {
            check.same("no test tells the words of " + words, true, false);
        }
        check.end("BoundaryTest");
    }
}
