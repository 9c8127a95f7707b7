import java.util.Random;

/** Places where a small slip in the class would leave ordinary answers as they are. */
public final class FinePointsTest {
    public static void main(String[] args) {
        undoneJourneys();
        creaksOfBoth();
        boundsOfTheLaw();
        lettersOfTheLaw();
        longPartsOfTheLaw();
        orderOfTheTwo();
        fullTape();
        leastRows();
        bestForThoseThatAsk();
        manySearches();
        sandingBetween();
        sandingWithWear();
        steamingAlike();
        firstRules();
        countsBeginAnew();
        likingByOne();
        Bench.end("FinePointsTest");
    }

    private static void due(String call, int got, int want) {
        Bench.due(call, got, want);
    }

    private static void undoneJourneys() {
        Bench.part("28 undo, journeys");
        Bench b = Bench.people(1, 0);
        b.journey(0, "1,2,3");
        b.x.days(1);
        b.x.keep();
        b.journey(0, "5,5,5");
        b.x.days(2);
        due("TOWN", b.x.personIs(0, 1), 5);
        b.x.undo();
        due("TOWN", b.x.personIs(0, 1), 1);
        b.x.days(1);
        due("TOWN", b.x.personIs(0, 1), 2);
        due("left", b.x.personIs(0, 7), 1);
        b.x.person(1, 1, 3);
        b.x.tried(60, 0);
        due("trying does not go on", b.x.personIs(0, 7), 1);
        due("trying goes the way", b.x.tried(1, 11), 0);
        due("trying goes the way", b.x.tried(1, 0), 1);
    }

    private static void creaksOfBoth() {
        Bench.part("5 weds, CREAKS of both");
        Bench b = Bench.people(2, 2);
        b.front(0, 7);
        b.front(1, 5);
        b.law("c10(1=1);b3(1=1)");
        b.x.weds(0, 2);
        b.x.days(2);
        due("CREAKS", b.x.personIs(2, 3), 2);
        b.x.dies(0);
        due("CREAKS stay", b.x.personIs(2, 3), 2);
        b.x.weds(1, 2);
        due("CREAKS", b.x.personIs(2, 3), 0);
        due("CREAKS", b.x.personIs(1, 3), 0);
    }

    private static void boundsOfTheLaw() {
        Bench.part("7 law, bounds");
        Bench b = Bench.people(1, 1);
        b.edge(0, "9*8");
        b.edge(1, "9*3,8,0*4");
        b.x.wear(0, 7);
        due("slack", b.x.slack(0, 1, 0), 100);
        b.law("f100(1=1)");
        due("f is 99 at most", b.x.slack(0, 1, 1), 0);
        b.x.wear(0, 8);
        due("f 99", b.x.slack(0, 1, 1), 1);
        b.law("w10(1=1)");
        b.x.days(1);
        due("w is 9 at most", b.x.piece(0, 8), 17);
        b.law("w0-1(1=1)");
        due("w is 0 at least", b.x.worn(0, 1), -2);
        b.law("b100(1=1);c10(1=1)");
        b.x.weds(0, 1);
        b.x.days(60);
        b.x.days(60);
        b.x.days(60);
        due("99 is not more than 99", b.x.personIs(0, 2), 1);
        b.law("b98(1=1)");
        b.x.days(1);
        due("99 is more than 98", b.x.personIs(0, 2), -2);
        b.law("l0-5(1=1)");
        due("l is 0 at least", b.x.slack(0, 1, 2), 0);
    }

    private static void lettersOfTheLaw() {
        Bench.part("7 law, letters");
        Bench b = new Bench();
        b.x.person(0, 0, 1);
        b.x.person(1, 1, 2);
        b.x.person(2, 1, 3);
        b.x.weds(0, 2);
        b.law("c10(1=1);b99(1=1)");
        b.x.days(7);
        b.law("l10*d+a(1=1)");
        due("d and a", b.x.slack(0, 1, 2), 77);
        due("d and a", b.x.slack(1, 0, 2), 70);
        b.law("c10(a=7&d=7&i=0&j=2&u=1&v=3&s=3);b99(a=8)");
        b.front(0, 3);
        b.x.days(1);
        due("c asked ahead, b behind", b.x.personIs(0, 3), 8);
        due("WED still", b.x.personIs(0, 2), 2);
        b.law("b9(d=9)");
        b.x.days(1);
        due("THE DAY is still 8", b.x.personIs(0, 2), -2);
        b.law("f9(s=0);l9(s=3)");
        due("s is 0 in f", b.x.slack(0, 1, 1), 1);
        due("s is the slack in l", b.x.slack(0, 1, 2), 9);
        b.x.dies(2);
        b.law("l9(i=2&x=0&y=1&s=0);f9(1=1)");
        for (int what = 0; what < 3; what++) due("a law gives no slack to one that holds none", b.x.slack(2, 0, what), -1);
    }

    private static void longPartsOfTheLaw() {
        Bench.part("7 law, long parts");
        Bench b = Bench.people(1, 1);
        String[] cs = {"1=1|1=2|1=2", "1=2|1=1|1=2", "1=2|1=2|1=1", "1=2|1=2|1=2", "1=1&1=1&1=2", "1=2&1=1&1=1", "1=1&1=2&1=1", "1=1&1=1&1=1",
            "(1=1|1=2)&1=2", "!(1=1|1=2)", "!(1=1|1=2|1=2)", "!(1=2&1=1&1=1)", "(1=2&1=1)|1=1", "1=2&1=1|1=2&1=1|1=1", "!(1=1&1=1)|!(1=2|1=2)",
            "(1=2|(1=2|1=1)&(1=1|1/0=0))&!(1=2&1/0=0)"};
        int[] holds = {1, 1, 1, 0, 0, 0, 0, 1, 0, 0, 0, 1, 1, 1, 1, 1};
        for (int t = 0; t < cs.length; t++) {
            due(cs[t], b.law("f0(1=1);l0(1=2);l[1+1]*3(" + cs[t] + ")"), 3);
            due(cs[t], b.x.slack(0, 1, 2), 6 * holds[t]);
        }
    }

    private static void orderOfTheTwo() {
        Bench.part("14 slack, f of two of one SIDE");
        Bench b = Bench.people(2, 2);
        b.front(0, 1);
        b.front(3, 1);
        b.law("f1(i<j)");
        due("the lower one first", b.x.slack(0, 1, 1), 1);
        due("the lower one first", b.x.slack(1, 0, 1), 1);
        due("the lower one first", b.x.slack(2, 3, 1), 1);
        due("the lower one first", b.x.slack(3, 2, 1), 1);
        Bench c = new Bench();
        c.x.person(0, 1, 0);
        c.x.person(1, 0, 0);
        c.front(0, 1);
        c.law("f1(i=1&j=0)");
        due("SIDE 0 first", c.x.slack(0, 1, 1), 1);
        due("SIDE 0 first", c.x.slack(1, 0, 1), 1);
        c.law("w1(i=1&j=0&p=0&q=1)");
        due("w: SIDE 0 first", c.x.worn(0, 1), 1);
        c.x.days(1);
        due("w: SIDE 0 first", c.x.piece(1, 8), 1);
    }

    private static void fullTape() {
        Bench.part("6 to 9, the whole tape");
        Bench b = Bench.people(1, 1);
        b.feed("0,0,0,0,0,0,0,0,0,0,");
        due("edge of all bytes", b.x.edge(0, 20), -6016);
        b.feed("1,1,1,1,1,1,1,1,1,1,");
        due("journey of all bytes", b.x.journey(0, 20), -1020);
        b.feed("f1(123=123&123=1234)");
        due("law of all bytes", b.x.law(20), 1);
        due("check of none", b.x.check(0, 0), -1);
        b.feed("");
        due("cutter beyond 11", b.bytes(0).x.cutter(1, 0), -3);
        due("cutter of 12", b.bytes(12, 0).x.cutter(1, 0), -3);
        due("cutter of 12", b.bytes(0, 12).x.cutter(1, 0), -3);
        due("cutter of 11", b.bytes(11, 10).x.cutter(1, 0), 16);
    }

    private static void leastRows() {
        Bench.part("16 most, rows");
        Bench b = Bench.people(3, 3);
        b.front(0, 1);
        b.front(1, 1);
        b.front(2, 1);
        b.law("f5(i=0&j>3|i=1&j=5|i=1&j=3|i=2&j<5)");
        int[] row = {4, 5, 3};
        for (int i = 0; i < 3; i++) due("by those of SIDE 0", b.x.most(i), row[i]);
        due("SLACK", b.x.most(21), 3);
        b.law("f9(j=3)");
        b.front(0, 5);
        due("nobody", b.x.most(0), -2);
        due("the next one", b.x.most(1), 3);
        due("nobody", b.x.most(2), -2);
        due("SLACK", b.x.most(21), 1);
        b.law("f9(j=3|i=1&j=5)");
        due("more is better than less slack", b.x.most(20), 2);
        due("2 is better than 0", b.x.most(2), 3);
        due("2 is better than 0", b.x.most(1), 5);
    }

    private static void bestForThoseThatAsk() {
        Bench.part("17 stable, who asks");
        Bench b = new Bench();
        b.x.person(0, 1, 0);
        b.x.person(1, 1, 0);
        b.x.person(2, 0, 0);
        b.x.person(3, 0, 0);
        b.law("l9(i=2&j=0|i=3&j=1|i=0&j=3|i=1&j=2);l5(1=1)");
        int[] gets = {2, 3, 0, 1};
        for (int i = 0; i < 4; i++) due("best for SIDE 0", b.x.stable(i), gets[i]);
        due("how many", b.x.stable(20), 2);
        b.law("l9(i=2&j=1|i=3&j=1);l5(p=0);l1(i=1&j=2);l2(1=1)");
        due("who is turned away asks on", b.x.stable(2), 0);
        due("who is kept", b.x.stable(3), 1);
    }

    private static void manySearches() {
        Bench.part("19 search, many");
        Random random = new Random(3);
        for (int run = 0; run < 60; run++) {
            int n = 2 + random.nextInt(5);
            int[] bytes = new int[n + n * n];
            for (int t = 0; t < bytes.length; t++) bytes[t] = t < n ? random.nextInt(6) : 1 + random.nextInt(run % 2 == 0 ? 4 : 20);
            bytes[n - 1]++;
            int[] best = new int[n];
            int sum = least(bytes, n, new int[n], 1, 0, 0, 1, Integer.MAX_VALUE, best);
            int all = 0;
            for (int t = 0; t < n; t++) all += bytes[t];
            Bench b = new Bench();
            for (int p = 0; p < n; p++) due("place " + p + " of " + n, b.bytes(bytes).x.search(n, p), best[p]);
            int above = b.bytes(bytes).x.search(n, 20);
            int below = b.bytes(bytes).x.search(n, 21);
            due("the mean", above * all, sum * below);
            for (int d = 2; d <= below; d++) due("no common divisor " + d, above % d == 0 && below % d == 0 ? 1 : 0, 0);
        }
    }

    private static int least(int[] bytes, int n, int[] order, int place, int day, int sum, int seen, int least, int[] best) {
        if (place == n) {
            if (sum < least) System.arraycopy(order, 0, best, 0, n);
            return Math.min(sum, least);
        }
        for (int t = 1; t < n; t++) {
            if ((seen >> t & 1) == 0) {
                int then = day + bytes[n + order[place - 1] * n + t];
                order[place] = t;
                least = least(bytes, n, order, place + 1, then, sum + bytes[t] * then, seen | 1 << t, least, best);
            }
        }
        return least;
    }

    private static void sandingBetween() {
        Bench.part("20 sanding, between two");
        Bench b = Bench.people(3, 0);
        b.edge(1, "0*7,4");
        b.edge(2, "0*7,-3");
        due("7 apart", b.x.sanding(0, 1, 3, 2, 3, 10, 0), -2);
        due("down to one, work", b.x.sanding(0, 1, 3, 2, 4, 10, 0), 1);
        due("down to one", b.x.sanding(0, 1, 3, 2, 4, 0, 0), 9);
        due("down to one, the others stay", b.x.sanding(0, 1, 3, 2, 4, 1, 0), 10);
        due("just so", b.x.sanding(0, 1, 0, 2, 7, 0, 0), 6);
        due("up", b.x.sanding(0, 1, 7, 2, 0, 0, 0), 13);
        due("up, others", b.x.sanding(0, 1, 7, 2, 0, 11, 6), 1);
        due("up, others", b.x.sanding(0, 1, 7, 2, 0, 11, 7), 2);
        b.edge(1, "9,0*7");
        b.edge(2, "0,-9,0*6");
        due("two heights", b.x.sanding(0, 1, 0, 2, 18, 7, 0), 1);
        due("two heights", b.x.sanding(0, 1, 9, 2, 9, 10, 0), 0);
        due("two heights", b.x.sanding(0, 1, 8, 2, 9, 10, 0), -2);
        due("two heights", b.x.sanding(0, 1, 9, 2, 8, 10, 0), -2);
        due("two heights", b.x.sanding(0, 1, 8, 2, 10, 7, 0), 9);
        due("two heights", b.x.sanding(0, 1, 10, 2, 8, 6, 0), 11);
    }

    private static void sandingWithWear() {
        Bench.part("20 sanding, WEAR");
        Bench b = Bench.people(4, 0);
        b.edge(1, "0*7,9");
        b.edge(2, "0*7,-9");
        b.x.wear(1, 4);
        due("WEAR of a", b.x.sanding(0, 1, 0, -1, 0, 10, 0), 5);
        due("WEAR of b", b.x.sanding(0, 2, 2, 1, 12, 10, 0), 7);
        due("WEAR of b", b.x.sanding(0, 2, 2, 1, 11, 10, 0), -2);
        due("WEAR of a at most", b.x.sanding(0, 1, 56, -1, 0, 10, 0), 0);
        due("WEAR of a at most", b.x.sanding(0, 1, 57, -1, 0, 10, 0), -1);
        due("WEAR of b at most", b.x.sanding(0, 2, 9, 1, 56, 10, 0), 0);
        due("WEAR of b at most", b.x.sanding(0, 2, 9, 1, 57, 10, 0), -1);
        b.x.wear(0, 1);
        b.x.wear(3, 2);
        due("WEAR of the others", b.x.sanding(0, 1, 0, -1, 0, 11, 0), 1);
        due("WEAR of the others", b.x.sanding(0, 1, 0, -1, 0, 11, 1), 2);
        due("WEAR of the others", b.x.sanding(0, 1, 0, -1, 0, 11, 11), 2);
        due("WEAR of the others", b.x.sanding(0, 1, 0, -1, 0, 11, 12), 3);
        due("WEAR of k and b at most", b.x.sanding(0, 2, 9, 1, 55, 10, 0), 0);
        due("WEAR of k and b at most", b.x.sanding(0, 2, 9, 1, 56, 10, 0), -1);
    }

    private static void steamed(String one, String other, int by, int turns, int raising) {
        Bench b = new Bench();
        b.edge(0, one);
        b.edge(1, other);
        due("the doings", b.x.steaming(0, 1, by, 0), turns + Math.abs(raising));
        due("the turns", b.x.steaming(0, 1, by, 1), turns);
        due("the raising", b.x.steaming(0, 1, by, 2), raising + 10);
    }

    private static void steamingAlike() {
        Bench.part("21 steaming, alike");
        steamed("-9,-4,9,-9,9,9,-9,1", "-9,9,1,9,-9,-9,9,9", 57, 0, -2);
        steamed("1,5,-9,9,9,-9,-9,-2", "-4,-9,3,-9,-1,3,-9,9", 39, 0, 5);
        steamed("-9,9,-9,9,9,-9,9,-9", "-5,1,-9,-9,9,9,-2,6", 52, 2, -3);
        steamed("-3,9,9,-9,-9,9,9,9", "9,-9,-5,9,7,9,9,-9", 71, 0, -1);
        steamed("0*8", "-9*8", 0, 0, 9);
        steamed("0*8", "9*8", 0, 0, -9);
        steamed("9,0*7", "-9,0*7", 0, 1, 0);
        steamed("0,9,0*6", "-9,0*7", 0, 2, 0);
        steamed("0*7,9", "0,-9,0*6", 0, 1, 0);
        steamed("0*6,9,0", "0*7,-9", 0, 6, 0);
        steamed("0*7,9", "0*7,-9", 0, 7, 0);
    }

    private static int rule(Bench b, String one, String other, int what) {
        b.edge(0, one);
        b.edge(1, other);
        return b.bytes(0, 1).x.cutter(1, what);
    }

    private static void firstRules() {
        Bench.part("23 cutter, rules");
        Bench b = new Bench();
        b.edge(11, "9,-9,0*6");
        due("rule 0", rule(b, "1,2,3,4,5,6,7,8", "-2,-1,0,1,2,3,4,5", 1), 0);
        due("rule 0 of piece 0", rule(b, "1,2,3,4,5,6,7,8", "-2,-1,0,1,2,3,4,5", 10), 1);
        due("rule 0 of a flat one", rule(b, "1,2,3,4,5,6,7,8", "-2,-1,0,1,2,3,4,5", 12), -2);
        due("rule 7", rule(b, "1,2,3,4,5,6,7,8", "-4,-5,-6,-7,-8,-9,-9,-9", 0), 0);
        due("rule 7", rule(b, "1,2,3,4,5,6,1,1", "-4,-5,-6,-7,-8,-9,-4,-4", 1), 7);
        due("rule 6", rule(b, "1,2,3,4,5,6,1,1", "4,5,6,7,8,9,4,4", 1), 6);
        due("rule 13", rule(b, "1,2,3,4,5,6,1,1", "2,1,0,-1,-2,-3,2,2", 1), 13);
        due("shift 1", rule(b, "1,2,3,4,5,6,7,8", "8,1,2,3,4,5,6,7", 1), 14 + 3);
        due("shift 7", rule(b, "1,2,3,4,5,6,7,8", "2,3,4,5,6,7,8,1", 1), 98 + 3);
        due("shift 7, rule 111", rule(b, "1,2,3,4,5,6,0,1", "1,0,-1,-2,-3,3,2,2", 1), 111);
        due("rule 3 for the same", rule(b, "1,2,3,4,5,6,7,8", "1,2,3,4,5,6,7,8", 1), 3);
        due("rule 3 for the same: the lowest", rule(b, "1,2,3,4,5,6,7,8", "1,2,3,4,5,6,7,8", 11), 0);
        due("4 more is no rule", rule(b, "1*8", "5*8", 0), 0);
        due("3 more, and the other sign", rule(b, "0*8", "3*8", 0), 16);
    }

    private static void likingByOne() {
        Bench.part("17 and 18, a liking of 1");
        Bench b = Bench.people(2, 2);
        b.law("l1(1=1)");
        due("1 is enough to ask and to keep", b.x.stable(20), 2);
        due("1 is more than nobody", b.x.unrest(0), 4);
        b.x.weds(0, 2);
        due("1 is not more than 1", b.x.unrest(0), 1);
        b.law("l1(p=0)");
        due("0 is not enough to keep", b.x.stable(20), 0);
        due("0 is not more than nobody", b.x.unrest(0), 0);
        b.law("l1(p=1)");
        due("0 is not enough to ask", b.x.stable(20), 0);
        due("0 is not more than nobody", b.x.unrest(0), 0);
    }

    private static void countsBeginAnew() {
        Bench.part("11 tried, counts");
        Bench b = Bench.people(1, 1);
        b.law("b0(1=1);c10(1=1);f9(1=1)");
        due("weds and parts", b.x.days(1), 1);
        b.x.days(1);
        due("parts are of these DAYS", b.x.tried(5, 2), 0);
        due("tries are of these DAYS", b.x.tried(5, 1), 0);
        due("weddings are of these DAYS", b.x.tried(5, 0), 0);
        due("weddings are of these DAYS", b.x.days(5), 0);
    }
}
