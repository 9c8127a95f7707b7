/** Each sentence of the document's promises, with calls on both sides of every boundary that it names. */
public final class PromiseSentencesTest extends Sentences {
    public static void main(String[] args) {
        TellingPromises.all();
        AskingPromises.all();
        for (int p = 1; p <= 30; p++) PAGE.allSaid("Promise " + p);
        Bench.end("PromiseSentencesTest");
    }
}
