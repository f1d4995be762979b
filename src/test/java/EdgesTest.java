import java.io.IOException;

/** Each sentence of the document with its edges: every one is quoted and has answers of its own. */
public final class EdgesTest {
    public static void main(String[] args) throws IOException {
        Sentences s = new Sentences("EdgesTest");
        EdgesOfDocument.all(s);
        EdgesOfNights.all(s);
        EdgesOfBooks.all(s);
        EdgesOfSaying.all(s);
        EdgesOfActs.all(s);
        EdgesOfQuestions.all(s);
        s.finish();
    }
}
