import java.io.IOException;

/** Each sentence of the document, above all those that name a boundary case, with a test of its own; see Sentences. */
public final class BoundariesTest {
    public static void main(String[] args) throws IOException, ReflectiveOperationException {
        Sentences.open();
        FrameSentences.test();
        ErrorSentences.test();
        GridSentences.test();
        TextSentences.test();
        StateSentences.test();
        SightSentences.test();
        JudgeSentences.test();
        ChanceSentences.test();
        int wrong = Sentences.finish();
        System.out.println(wrong == 0 ? "all sentences hold" : wrong + " things are not as due");
        if (wrong != 0) {
            System.exit(1);
        }
    }
}
