import java.util.Random;

/** Runs of 512 calls with drawn arguments, on the class and on the oracle at once: each answer must be the same. */
public final class RandomRunsTest {
    private final Random random;
    private final PuzzleWed real = new PuzzleWed();
    private final Oracle oracle = new Oracle();
    private final int seed;
    private int calls;
    private int wrong;
    private final boolean calm;

    private RandomRunsTest(int seed) {
        this.seed = seed;
        random = new Random(seed);
        calm = seed % 4 != 0;
    }

    public static void main(String[] args) {
        int runs = args.length > 0 ? Integer.parseInt(args[0]) : 400;
        int wrong = 0;
        for (int seed = 0; seed < runs && wrong < 20; seed++) {
            wrong += new RandomRunsTest(seed).run();
        }
        System.out.println(wrong == 0 ? runs + " runs are as the oracle's" : "wrong answers: " + wrong);
        if (wrong != 0) System.exit(1);
    }

    private int run() {
        if (calm) {
            for (int i = 0; i < 12; i++) {
                if (pick(6) > 0) same("person", yes(real.person(i, i & 1, 0)), yes(oracle.person(i, i & 1, 0)));
            }
            tellLaw();
            for (int k = 0; k < 12; k++) tellEdge(k);
        }
        while (calls < 512 && wrong < 3) call();
        return wrong;
    }

    private static int yes(boolean b) {
        return b ? 1 : 0;
    }

    private int pick(int n) {
        return random.nextInt(n);
    }

    /** Mostly 0 to n - 1, at times beyond that. */
    private int near(int n) {
        int luck = pick(40);
        if (luck == 0) return -1;
        if (luck == 1) return n;
        if (luck == 2) return pick(100) - 50;
        if (luck == 3 && pick(10) == 0) return random.nextInt();
        return pick(n);
    }

    private void same(String call, int got, int due) {
        calls++;
        if (got != due) {
            wrong++;
            System.out.println("seed " + seed + ", call " + calls + ": " + call + " answered " + got + ", the oracle " + due);
        }
    }

    // ---- texts

    private String edgeText() {
        StringBuilder s = new StringBuilder();
        int left = 8;
        while (left > 0) {
            int times = pick(3) == 0 ? 1 + pick(left) : 1;
            int height = pick(3) == 0 ? pick(19) - 9 : pick(5) - 2;
            s.append(height);
            if (times > 1) s.append('*').append(times);
            left -= times;
            if (left > 0) s.append(',');
        }
        if (pick(8) == 0) s.append(",1*").append(pick(10));
        return spoilt(s, "0123456789-,*");
    }

    private String wayText() {
        StringBuilder s = new StringBuilder();
        int stops = 1 + (pick(5) == 0 ? pick(20) : pick(6));
        for (int t = 0; t < stops; t++) {
            s.append(t > 0 ? "," : "").append(pick(30) == 0 ? pick(10) : pick(pick(2) + 2));
            if (pick(4) == 0) s.append('*').append(2 + pick(8));
        }
        return spoilt(s, "0123456789,*");
    }

    private String sum(int deep) {
        StringBuilder s = new StringBuilder(term(deep));
        while (pick(3) == 0) s.append("+-".charAt(pick(2))).append(term(deep));
        return s.toString();
    }

    private String term(int deep) {
        StringBuilder s = new StringBuilder(factor(deep));
        while (pick(4) == 0) s.append("*/%".charAt(pick(3))).append(factor(deep));
        return s.toString();
    }

    private String factor(int deep) {
        int luck = pick(12);
        if (luck == 0 && deep > 0) return "[" + sum(deep - 1) + "]";
        if (luck == 1) return "" + pick(pick(2) == 0 ? 100000 : 200);
        if (luck == 2) return "99999*99999";
        return luck < 6 ? "" + pick(12) : "" + "ijsxyuvdapq".charAt(pick(11));
    }

    private String either(int deep) {
        StringBuilder s = new StringBuilder(both(deep));
        while (pick(4) == 0) s.append('|').append(both(deep));
        return s.toString();
    }

    private String both(int deep) {
        StringBuilder s = new StringBuilder(test(deep));
        while (pick(4) == 0) s.append('&').append(test(deep));
        return s.toString();
    }

    private String test(int deep) {
        int luck = pick(8);
        if (luck == 0 && deep > 0) return "!" + test(deep - 1);
        if (luck == 1 && deep > 0) return "(" + either(deep - 1) + ")";
        if (luck == 2) return "1=1";
        return sum(deep) + "<>=".charAt(pick(3)) + sum(deep);
    }

    private String lawText() {
        StringBuilder s = new StringBuilder();
        String letters = "flwcb";
        int clauses = 1 + (pick(10) == 0 ? pick(18) : pick(6));
        int deep = pick(8) == 0 ? 7 : 4;
        for (int c = 0; c < clauses; c++) {
            char letter = letters.charAt(pick(5));
            String worth = letter == 'l' && pick(2) == 0 ? "20-s+j*7%5" : pick(2) == 0 ? "" + pick(12) : sum(deep);
            String when = pick(2) == 0 ? "1=1" : either(deep);
            if (clauses > 12) when = "d<" + pick(9);
            s.append(c > 0 ? ";" : "").append(letter).append(worth).append('(').append(when).append(')');
        }
        if (pick(3) > 0 && s.length() < 180) s.append(";f" + (3 + pick(15)) + "(1=1);l30-s(1=1);w" + pick(4) + "(1=1);c5(1=1);b2(1=1)");
        return spoilt(s, "flwcb0123456789()[]!&|+-*/%<>=;ijsxyuvdapq ");
    }

    private String spoilt(StringBuilder s, String signs) {
        if (pick(10) == 0) {
            int place = pick(s.length());
            int luck = pick(4);
            if (luck == 0) s.setCharAt(place, signs.charAt(pick(signs.length())));
            else if (luck == 1) s.insert(place, signs.charAt(pick(signs.length())));
            else if (luck == 2) s.deleteCharAt(place);
            else s.setCharAt(place, (char) pick(256));
        }
        return s.toString();
    }

    private void feedText(String text) {
        for (int p = 0; p < text.length(); p += 20) {
            int[] words = new int[5];
            for (int q = 0; q < 20; q++) {
                int c = p + q < text.length() ? text.charAt(p + q) : pick(256);
                words[q / 4] |= c << 24 - 8 * (q % 4);
            }
            same("feed", real.feed(words[0], words[1], words[2], words[3], words[4]),
                oracle.feed(words[0], words[1], words[2], words[3], words[4]));
        }
    }

    /** The tape must be empty for a text to stand at its beginning. */
    private void emptyTape() {
        if (pick(20) > 0) same("check empty", real.check(0, 0), oracle.check(0, 0));
    }

    private int off(int n) {
        int luck = pick(30);
        return luck == 0 ? n + 1 : luck == 1 ? n - 1 : luck == 2 ? near(250) : n;
    }

    private void tellLaw() {
        String text = lawText();
        emptyTape();
        feedText(text);
        int n = off(text.length());
        same("law(" + n + ") of " + text, real.law(n), oracle.law(n));
    }

    private void tellEdge(int k) {
        String text = edgeText();
        emptyTape();
        feedText(text);
        int n = off(text.length());
        same("edge(" + k + ", " + n + ") of " + text, real.edge(k, n), oracle.edge(k, n));
    }

    // ---- calls

    private void call() {
        int i = near(12), j = near(12), n, what;
        switch (pick(36)) {
            case 0: {
                int side = near(2), town = near(pick(3) + 1);
                same("person(" + i + ", " + side + ", " + town + ")", yes(real.person(i, side, town)), yes(oracle.person(i, side, town)));
                break;
            }
            case 1:
                n = near(pick(2) == 0 ? 100 : 8);
                same("wear(" + i + ", " + n + ")", yes(real.wear(i, n)), yes(oracle.wear(i, n)));
                break;
            case 2:
                if (pick(4) == 0) same("dies(" + i + ")", yes(real.dies(i)), yes(oracle.dies(i)));
                break;
            case 3:
                same("weds(" + i + ", " + j + ")", yes(real.weds(i, j)), yes(oracle.weds(i, j)));
                break;
            case 4: {
                int[] w = {random.nextInt(), random.nextInt(), random.nextInt(), random.nextInt(), random.nextInt()};
                same("feed", real.feed(w[0], w[1], w[2], w[3], w[4]), oracle.feed(w[0], w[1], w[2], w[3], w[4]));
                break;
            }
            case 5:
                tellLaw();
                break;
            case 6: case 7:
                tellEdge(i);
                break;
            case 8: {
                String text = wayText();
                emptyTape();
                feedText(text);
                n = off(text.length());
                same("journey(" + i + ", " + n + ") of " + text, real.journey(i, n), oracle.journey(i, n));
                break;
            }
            case 9: case 10:
                n = near(pick(3) == 0 ? 61 : 4);
                same("days(" + n + ")", real.days(n), oracle.days(n));
                break;
            case 11: case 12:
                n = near(pick(3) == 0 ? 61 : 4);
                what = pick(3) == 0 ? near(45) : near(4);
                same("tried(" + n + ", " + what + ")", real.tried(n, what), oracle.tried(n, what));
                break;
            case 13: case 14:
                what = near(9);
                same("personIs(" + i + ", " + what + ")", real.personIs(i, what), oracle.personIs(i, what));
                break;
            case 15:
                what = near(10);
                same("piece(" + i + ", " + what + ")", real.piece(i, what), oracle.piece(i, what));
                break;
            case 16: case 17:
                what = near(3);
                same("slack(" + i + ", " + j + ", " + what + ")", real.slack(i, j, what), oracle.slack(i, j, what));
                break;
            case 18:
                what = near(4);
                same("locks(" + what + ")", real.locks(what), oracle.locks(what));
                break;
            case 19: case 20:
                what = near(22);
                same("most(" + what + ")", real.most(what), oracle.most(what));
                break;
            case 21: case 22:
                what = near(21);
                same("stable(" + what + ")", real.stable(what), oracle.stable(what));
                break;
            case 23:
                what = near(3);
                same("unrest(" + what + ")", real.unrest(what), oracle.unrest(what));
                break;
            case 24:
                search();
                break;
            case 25: case 26:
                sanding(i, j);
                break;
            case 27: {
                int by = near(pick(2) == 0 ? 100 : 20);
                what = near(3);
                same("steaming(" + i + ", " + j + ", " + by + ", " + what + ")", real.steaming(i, j, by, what), oracle.steaming(i, j, by, what));
                break;
            }
            case 28:
                same("worn(" + i + ", " + j + ")", real.worn(i, j), oracle.worn(i, j));
                break;
            case 29:
                cutter();
                break;
            case 30:
                what = near(4);
                same("copies(" + what + ")", real.copies(what), oracle.copies(what));
                break;
            case 31:
                n = near(8);
                same("mate(" + i + ", " + n + ")", real.mate(i, n), oracle.mate(i, n));
                break;
            case 32:
                n = near(65536);
                same("seed(" + n + ")", yes(real.seed(n)), yes(oracle.seed(n)));
                break;
            case 33:
                if (pick(3) == 0) same("undo", yes(real.undo()), yes(oracle.undo()));
                else same("keep", real.keep(), oracle.keep());
                break;
            case 34:
                check(i);
                break;
            default:
                what = near(16);
                same("count(" + what + ")", real.count(what), oracle.count(what));
        }
    }

    private void search() {
        int n = near(5) + 2;
        StringBuilder s = new StringBuilder();
        int towns = n < 2 || n > 6 ? 2 : n;
        for (int t = 0; t < towns; t++) s.append((char) (pick(3) == 0 ? 0 : pick(pick(30) == 0 ? 102 : 100)));
        for (int t = 0; t < towns * towns; t++) {
            boolean own = t / towns == t % towns;
            s.append((char) (own ? pick(256) : pick(400) == 0 ? pick(2) * 21 : 1 + pick(pick(2) == 0 ? 20 : 4)));
        }
        emptyTape();
        feedText(s.toString());
        int what = pick(2) == 0 ? 20 + near(2) : near(7);
        same("search(" + n + ", " + what + ")", real.search(n, what), oracle.search(n, what));
    }

    private void sanding(int k, int a) {
        int byA = near(pick(2) == 0 ? 61 : 12);
        int b = pick(3) == 0 ? -1 : near(12);
        int byB = near(pick(2) == 0 ? 61 : 12);
        int what = near(12);
        int more = near(100);
        same("sanding(" + k + ", " + a + ", " + byA + ", " + b + ", " + byB + ", " + what + ", " + more + ")",
            real.sanding(k, a, byA, b, byB, what, more), oracle.sanding(k, a, byA, b, byB, what, more));
    }

    private void cutter() {
        if (pick(2) == 0) {
            int from = pick(12), to = pick(12);
            int[] made = Oracle.cut(oracle.now.edges[from], pick(8), pick(2), pick(7) - 3);
            StringBuilder s = new StringBuilder();
            for (int h = 0; h < 8; h++) s.append(h > 0 ? "," : "").append(made[h]);
            emptyTape();
            feedText(s.toString());
            int length = s.length();
            same("edge of " + s, real.edge(to, length), oracle.edge(to, length));
            s.setLength(0);
            s.append((char) from).append((char) to);
            askCutter(s, 1);
            return;
        }
        StringBuilder s = new StringBuilder();
        int n = near(5) + 1;
        for (int t = 0; t < 10; t++) s.append((char) (pick(60) == 0 ? pick(256) : pick(12)));
        askCutter(s, n);
    }

    private void askCutter(StringBuilder s, int n) {
        emptyTape();
        feedText(s.toString());
        int what = pick(2) == 0 ? near(2) : 10 + near(12);
        same("cutter(" + n + ", " + what + ")", real.cutter(n, what), oracle.cutter(n, what));
    }

    private void check(int k) {
        StringBuilder s = new StringBuilder();
        for (int h = 0; h < 8; h++) {
            int height = k >= 0 && k < 12 ? oracle.now.edges[k][h] : 0;
            s.append((char) (pick(20) == 0 ? pick(256) : height + 9));
        }
        emptyTape();
        feedText(s.toString());
        int n = near(9);
        same("check(" + k + ", " + n + ")", real.check(k, n), oracle.check(k, n));
    }
}
