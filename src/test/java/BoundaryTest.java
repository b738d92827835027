import java.io.IOException;

/** Each sentence of 'Terms' and of the promises has a test of its own, with the boundary cases that it names. */
public final class BoundaryTest {
    public static void main(String[] args) throws IOException {
        Sentences s = new Sentences("BoundaryTest");
        TermSentences.run(s);
        SlotSentences.run(s);
        BusSentences.run(s);
        ValueSentences.run(s);
        ForecastSentences.run(s);
        TextSentences.run(s);
        StateSentences.run(s);
        s.end();
    }
}
