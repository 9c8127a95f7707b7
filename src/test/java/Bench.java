/** An object to try calls on, with texts in place of ints, and the count of answers that are not as due. */
final class Bench {
    private static int wrong = 0;
    private static String part = "";
    final PuzzleWed x = new PuzzleWed();

    static void part(String name) {
        part = name;
    }

    static void due(String call, int got, int want) {
        if (got != want) {
            wrong++;
            System.out.println(part + ": " + call + " answered " + got + ", due is " + want);
        }
    }

    static void due(String call, boolean got, boolean want) {
        due(call, got ? 1 : 0, want ? 1 : 0);
    }

    static void end(String name) {
        System.out.println(name + ": " + (wrong == 0 ? "all answers are as due" : wrong + " answers are not as due"));
        if (wrong != 0) System.exit(1);
    }

    /** Puts a text behind the tape, filled up with zeros to whole feeds. */
    Bench feed(String text) {
        for (int p = 0; p < text.length() || p == 0; p += 20) {
            int[] w = new int[5];
            for (int q = 0; q < 20 && p + q < text.length(); q++) w[q / 4] |= text.charAt(p + q) << 24 - 8 * (q % 4);
            x.feed(w[0], w[1], w[2], w[3], w[4]);
        }
        return this;
    }

    Bench bytes(int... bytes) {
        StringBuilder s = new StringBuilder();
        for (int b : bytes) s.append((char) b);
        return feed(s.toString());
    }

    int law(String text) {
        feed(text);
        return x.law(text.length());
    }

    int edge(int k, String text) {
        feed(text);
        return x.edge(k, text.length());
    }

    int journey(int i, String text) {
        feed(text);
        return x.journey(i, text.length());
    }

    /** Flat pieces with heights at the front and zeros behind them. */
    void front(int k, int... heights) {
        StringBuilder s = new StringBuilder();
        for (int h = 0; h < 8; h++) s.append(h > 0 ? "," : "").append(h < heights.length ? heights[h] : 0);
        edge(k, s.toString());
    }

    /** The first of side 0, the next ones of side 1, all in town 0. */
    static Bench people(int ofSide0, int ofSide1) {
        Bench b = new Bench();
        for (int i = 0; i < ofSide0 + ofSide1; i++) b.x.person(i, i < ofSide0 ? 0 : 1, 0);
        return b;
    }

    /** All that can be asked without changing anything. */
    String state() {
        StringBuilder s = new StringBuilder();
        for (int i = 0; i < 12; i++) {
            for (int what = 0; what < 9; what++) s.append(x.personIs(i, what)).append(' ');
            for (int h = 0; h < 10; h++) s.append(x.piece(i, h)).append(' ');
            for (int j = 0; j < 12; j++) s.append(x.slack(i, j, 2)).append(' ');
        }
        for (int what = 0; what < 16; what++) s.append(x.count(what)).append(' ');
        return s.toString();
    }

    void unchanged(String call, String before) {
        due(call + " must change nothing, the state", state().equals(before), true);
    }
}
