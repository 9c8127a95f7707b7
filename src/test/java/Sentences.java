/** What the tests that go sentence by sentence have in common. */
class Sentences {
    static final int LEAST = Integer.MIN_VALUE;
    static final int MOST = Integer.MAX_VALUE;
    /** Numbers that no person and no piece has. */
    static final int[] NOBODIES = {-1, 12, 13, LEAST, MOST, 256, -256, 1 << 16};
    static final DocPage PAGE = new DocPage();
    private static String section = "";

    static void section(String name) {
        section = name;
    }

    static void says(String sentence) {
        PAGE.says(section, sentence);
    }

    static void due(String call, int got, int want) {
        Bench.due(call, got, want);
    }

    static void due(String call, boolean got, boolean want) {
        Bench.due(call, got, want);
    }

    /** Each text and the answer that is due for it, in turn. */
    static void edges(Bench b, int k, Object... texts) {
        for (int t = 0; t < texts.length; t += 2) due("edge of " + texts[t], b.edge(k, (String) texts[t]), (int) texts[t + 1]);
    }

    static void journeys(Bench b, int i, Object... texts) {
        for (int t = 0; t < texts.length; t += 2) due("journey of " + texts[t], b.journey(i, (String) texts[t]), (int) texts[t + 1]);
    }

    static void laws(Bench b, Object... texts) {
        for (int t = 0; t < texts.length; t += 2) due("law of " + texts[t], b.law((String) texts[t]), (int) texts[t + 1]);
    }

    /** A text with another sign at a place. */
    static String put(String text, int place, char sign) {
        return text.substring(0, place) + sign + text.substring(place + 1);
    }

    /** Signs that no text has anywhere. */
    static final char[] STRANGE = {'#', ' ', 'z', 'A', '.', '\n', 0, 127, 128, 255, 128 + '1', 128 + ','};

    static String many(String part, String between, int times) {
        StringBuilder s = new StringBuilder();
        for (int t = 0; t < times; t++) s.append(t > 0 ? between : "").append(part);
        return s.toString();
    }
}
