/** Each sentence of the document's terms, with calls on both sides of every boundary that it names. */
public final class TermsTest extends Sentences {
    public static void main(String[] args) {
        section("Terms");
        LandTerms.all();
        LawTerms.all();
        DayTerms.all();
        MatchTerms.all();
        PieceTerms.all();
        PAGE.allSaid("Terms");
        Bench.end("TermsTest");
    }
}
