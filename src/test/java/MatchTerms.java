/** The terms of who fits whom, of the matchings and of travel, sentence by sentence. */
final class MatchTerms extends Sentences {
    static void all() {
        locks();
        mostOfThem();
        leastSlack();
        askers();
        keepers();
        unrest();
        searchBounds();
        searchOrders();
    }

    private static void locks() {
        says("LOCKS: three PEOPLE that live, of whom any two FIT (SIDES aside): how many threes; the first.");
        Bench b = new Bench();
        due("nobody", b.x.locks(0), 0);
        b.x.person(9, 1, 0);
        b.x.person(10, 0, 1);
        due("two are none", b.x.locks(0), 0);
        due("two are none", b.x.locks(1), -2);
        b.x.person(11, 0, 2);
        int[] last = {1, 9, 10, 11};
        for (int what = 0; what < 4; what++) due("three", b.x.locks(what), last[what]);
        b.front(10, 1);
        due("two of the three do not FIT one", b.x.locks(0), 0);
        b.law("f1(i=10&j=9|i=10&j=11)");
        due("any two FIT, SIDE 0 first, or the lower one", b.x.locks(0), 1);
        b.law("f1(i=9&j=10|i=10&j=11)");
        due("one two does not", b.x.locks(0), 0);
        b.law("f1(1=1)");
        b.x.dies(9);
        due("one is dead", b.x.locks(0), 0);
        due("one is dead", b.x.locks(3), -2);
        Bench all = Bench.people(6, 6);
        int[] first = {220, 0, 1, 2};
        for (int what = 0; what < 4; what++) due("all", all.x.locks(what), first[what]);
        all.x.weds(0, 6);
        due("WED or not", all.x.locks(0), 220);
        all.law("f0(1=1)");
        all.front(0, 5);
        all.front(1, 5, -5);
        all.front(2, 1, 1);
        int[] next = {84, 3, 4, 5};
        for (int what = 0; what < 4; what++) due("the first that can be", all.x.locks(what), next[what]);
    }

    private static void mostOfThem() {
        says("MOST: of all that live, not looking at who is WED, so many of SIDE 0 and SIDE 1 as can be WED at once to ones that FIT,");
        Bench b = Bench.people(3, 3);
        b.law("f9(i=0|i=1&j=3|i=2&j=3)");
        for (int k = 0; k < 3; k++) b.front(k, 2 + k);
        due("two", b.x.most(20), 2);
        int[] row = {4, 3, -2};
        for (int i = 0; i < 3; i++) due("row", b.x.most(i), row[i]);
        b.x.weds(0, 3);
        b.x.weds(2, 5);
        for (int i = 0; i < 3; i++) due("not looking at who is WED", b.x.most(i), row[i]);
        b.x.dies(1);
        due("of all that live", b.x.most(20), 2);
        due("of all that live", b.x.most(0), 4);
        due("of all that live", b.x.most(2), 3);
        b.x.dies(4);
        b.x.dies(5);
        due("one", b.x.most(20), 1);
        b.x.dies(3);
        due("none", b.x.most(20), 0);
        due("none", b.x.most(21), 0);
        due("nobody", b.x.most(0), -2);
        int[][] sizes = {{0, 0, 0}, {0, 12, 0}, {12, 0, 0}, {1, 11, 1}, {11, 1, 1}, {6, 6, 6}, {5, 7, 5}, {7, 5, 5}, {2, 10, 2}, {10, 2, 2}, {4, 8, 4}, {8, 4, 4}};
        for (int[] s : sizes) {
            Bench c = Bench.people(s[0], s[1]);
            due(s[0] + " and " + s[1], c.x.most(20), s[2]);
            for (int i = 0; i < s[0]; i++) due("row of " + s[0] + " and " + s[1], c.x.most(i), i < s[2] ? s[0] + i : -2);
        }
    }

    private static void leastSlack() {
        says("with the least SLACK together; of like ones the least row (by those of SIDE 0 whom they get, 12 nobody).");
        Bench b = Bench.people(2, 2);
        b.law("f99(1=1)");
        b.edge(0, "3,0*7");
        b.edge(1, "0*8");
        b.edge(2, "0*8");
        b.edge(3, "0*7,-3");
        due("the least SLACK", b.x.most(21), 0);
        due("the least SLACK", b.x.most(0), 3);
        due("the least SLACK", b.x.most(1), 2);
        b.edge(3, "0*7,3");
        due("6 and 0 or 3 and 3", b.x.most(21), 6);
        due("of like ones the least row", b.x.most(0), 2);
        due("of like ones the least row", b.x.most(1), 3);
        b.law("f5(1=1)");
        due("so many first", b.x.most(20), 2);
        b.law("f3(1=1)");
        due("0 FITS 2 alone, 1 both", b.x.most(0), 2);
        due("0 FITS 2 alone, 1 both", b.x.most(1), 3);
        due("so many ahead of less SLACK", b.x.most(21), 6);
        b.law("f3(j=2)");
        due("one alone: the least SLACK", b.x.most(1), 2);
        due("nobody", b.x.most(0), -2);
        due("the least SLACK", b.x.most(21), 0);
        b.edge(0, "0*8");
        due("somebody is less than nobody", b.x.most(0), 2);
        due("nobody", b.x.most(1), -2);
        Bench all = Bench.people(6, 6);
        for (int k = 0; k < 12; k++) all.edge(k, "8*8");
        all.law("f99(1=1)");
        for (int k = 0; k < 12; k++) all.x.wear(k, 15);
        due("SLACK together", all.x.most(21), 6 * 98);
        due("how many", all.x.most(20), 6);
    }

    private static void askers() {
        says("NONE WOULD LEAVE: those of SIDE 0 ask those of SIDE 1 that FIT, the best liked first (l; of like ones the lowest; with l 0 not at all),");
        Bench b = Bench.people(1, 3);
        b.law("l3(i=0&j=1);l5(i=0&j=2);l5(i=0&j=3);l1(1=1)");
        due("the best liked, the lowest", b.x.stable(0), 2);
        b.front(2, 1);
        due("that FIT", b.x.stable(0), 3);
        b.front(3, 1);
        due("that FIT", b.x.stable(0), 1);
        b.front(1, 1);
        due("nobody", b.x.stable(0), -2);
        due("nobody", b.x.stable(20), 0);
        for (int k = 1; k < 4; k++) b.front(k, 0);
        b.law("l0(i=0&j=1);l1(1=1)");
        due("l 0 not at all, l 1", b.x.stable(0), 2);
        b.law("l0(i=0);l9(1=1)");
        due("l 0 not at all", b.x.stable(0), -2);
        b.law("l0-9(i=0);l9(1=1)");
        due("l below 0 is 0", b.x.stable(0), -2);
        b.law("l99(i=0&j=1);l200(1=1)");
        due("l above 99 is 99: the lowest", b.x.stable(0), 1);
        askedFromZero();
    }

    /** Of side 1 are 0 to 2 here, so that the lowest one is 0. */
    private static void askedFromZero() {
        Bench b = new Bench();
        for (int i = 0; i < 6; i++) b.x.person(i, i < 3 ? 1 : 0, 0);
        b.law("l9(i=3&j=0);l8(i=3);l9(i=4&j=2);l8(i=4&j=0);l1(1=1)");
        int[] gets = {3, 5, 4, 0, 2, 1};
        for (int i = 0; i < 6; i++) due("the best liked is 0", b.x.stable(i), gets[i]);
        b.law("l9(i=3&j=2);l8(i=3);l1(1=1)");
        int[] next = {4, 5, 3, 2, 0, 1};
        for (int i = 0; i < 6; i++) due("0 is less liked", b.x.stable(i), next[i]);
        b.law("l8(i>2);l1(1=1)");
        int[] same = {3, 4, 5, 0, 1, 2};
        for (int i = 0; i < 6; i++) due("of like ones the lowest", b.x.stable(i), same[i]);
        b.front(0, 1);
        int[] two = {-2, 3, 4, 1, 2, -2};
        for (int i = 0; i < 6; i++) due("0 FITS nobody", b.x.stable(i), two[i]);
    }

    /** One of a lower number asks later: 0 is turned away by 2, then asks 3, who has 1. */
    private static void askedLater() {
        String way = "l9(i=0&j=2);l8(i=0&j=3);l9(i=1&j=3);l1(i=2&j=0);";
        Bench b = new Bench();
        b.x.person(0, 0, 0);
        b.x.person(1, 0, 0);
        b.x.person(4, 0, 0);
        b.x.person(2, 1, 0);
        b.x.person(3, 1, 0);
        way = way + "l9(i=4&j=2);l5(i=2&j=4);";
        b.law(way + "l3(i=3);l1(1=1)");
        int[] like = {3, -2, 4, 0, 2};
        for (int i = 0; i < 5; i++) due("of like ones the lowest, though it asks later", b.x.stable(i), like[i]);
        b.law(way + "l2(i=3&j=0);l3(i=3);l1(1=1)");
        int[] less = {-2, 3, 4, 1, 2};
        for (int i = 0; i < 5; i++) due("less liked, though lower", b.x.stable(i), less[i]);
        b.law(way + "l4(i=3&j=0);l3(i=3);l1(1=1)");
        for (int i = 0; i < 5; i++) due("better liked", b.x.stable(i), like[i]);
    }

    /** All of six and six ask as often as six and six can: 31 times. */
    private static void longestAsking() {
        Bench b = Bench.people(6, 6);
        b.law("l1(p=0&j=11);l10-[i+j+4]%5(p=0);l10-[i+j]%5(1=1)");
        due("all get one", b.x.stable(20), 6);
        int[] gets = {10, 9, 8, 7, 6, 11, 4, 3, 2, 1, 0, 5};
        for (int i = 0; i < 12; i++) due("31 askings", b.x.stable(i), gets[i]);
    }

    private static void keepers() {
        says("who keep the one they like best (likewise; with l 0 none): who is WED to whom then (not looking at who is WED now).");
        Bench b = Bench.people(3, 2);
        b.law("l9(p=0&j=3);l8(p=0);l1(i=3&j=0);l3(i=3);l1(1=1)");
        int[] gets = {4, 3, -2, 1, 0};
        for (int i = 0; i < 5; i++) due("keeps the best liked, the lowest", b.x.stable(i), gets[i]);
        due("how many", b.x.stable(20), 2);
        b.x.weds(0, 3);
        b.x.weds(2, 4);
        for (int i = 0; i < 5; i++) due("not looking at who is WED now", b.x.stable(i), gets[i]);
        b.law("l9(p=0&j=3);l8(p=0);l0(i=3);l1(1=1)");
        due("with l 0 none", b.x.stable(3), -2);
        due("the other one is asked then", b.x.stable(0), 4);
        due("how many", b.x.stable(20), 1);
        b.law("l9(p=0&j=3);l0(p=0);l0(i=3&j=0);l1(1=1)");
        int[] one = {-2, 3, -2, 1, -2};
        for (int i = 0; i < 5; i++) due("l 0 of one, l 1 of another", b.x.stable(i), one[i]);
        askedLater();
        longestAsking();
        Bench c = Bench.people(3, 3);
        c.law("l9(i=0&j=3|i=1&j=3|i=2&j=4|i=3&j=1|i=4&j=0|i=5);l5(i=0&j=4|i=1&j=4|i=2&j=3);l2(1=1)");
        int[] chain = {4, 3, 5, 1, 0, 2};
        for (int i = 0; i < 6; i++) due("one after the other is left", c.x.stable(i), chain[i]);
        c.x.dies(3);
        int[] left = {4, 5, -2, -1, 0, 1};
        due("that live", c.x.stable(20), 2);
        for (int i = 0; i < 6; i++) due("that live", c.x.stable(i), left[i]);
    }

    private static void unrest() {
        says("UNREST: twos of both SIDES that live and FIT, not WED to each other, of whom each likes the other one more "
            + "than whom it is WED to now (to nobody: more than 0): how many; the first.");
        Bench b = Bench.people(2, 2);
        due("l 0", b.x.unrest(0), 0);
        b.law("l1(1=1)");
        int[] free = {4, 0, 2};
        for (int what = 0; what < 3; what++) due("l 1, all free", b.x.unrest(what), free[what]);
        b.x.weds(1, 2);
        int[] one = {1, 0, 3};
        for (int what = 0; what < 3; what++) due("as much is not more", b.x.unrest(what), one[what]);
        b.law("l2(i=0|j=0);l1(1=1)");
        due("the WED one likes more, the free one more than 0", b.x.unrest(0), 2);
        b.law("l2(i=0|j=0&i=3);l1(1=1)");
        due("the WED one likes as much", b.x.unrest(0), 1);
        b.law("l2(i=1&j=2|i=2&j=1);l1(1=1)");
        due("the WED ones like each other more", b.x.unrest(0), 1);
        b.law("l1(i=1&j=2|i=2&j=1);l2(1=1)");
        int[] three = {3, 0, 2};
        for (int what = 0; what < 3; what++) due("not WED to each other", b.x.unrest(what), three[what]);
        b.front(0, 1);
        int[] fits = {1, 1, 3};
        for (int what = 0; what < 3; what++) due("that FIT", b.x.unrest(what), fits[what]);
        b.front(0, 0);
        b.x.dies(0);
        for (int what = 0; what < 3; what++) due("that live", b.x.unrest(what), fits[what]);
        b.x.dies(2);
        for (int what = 0; what < 3; what++) due("a widow likes nobody now", b.x.unrest(what), fits[what]);
        b.x.dies(3);
        int[] none = {0, -2, -2};
        for (int what = 0; what < 3; what++) due("none", b.x.unrest(what), none[what]);
        due("all", of(Bench.people(6, 6), "l1(1=1)").x.unrest(0), 36);
        due("of both SIDES", of(Bench.people(12, 0), "l1(1=1)").x.unrest(0), 0);
    }

    private static Bench of(Bench b, String law) {
        b.law(law);
        return b;
    }

    private static int searched(int n, int what, int... bytes) {
        return new Bench().bytes(bytes).x.search(n, what);
    }

    /** Weights of 1, days of 1 between any two. */
    private static int[] plain(int n) {
        int[] bytes = new int[n + n * n];
        java.util.Arrays.fill(bytes, 1);
        return bytes;
    }

    private static int[] with(int[] bytes, int place, int value) {
        int[] other = bytes.clone();
        other[place] = value;
        return other;
    }

    private static void searchBounds() {
        says("A SEARCH: TOWNS 0 to n - 1 (n 2 to 6),");
        for (int n : new int[] {0, 1, 7, -1, LEAST, MOST}) due("n " + n, new Bench().bytes(plain(6)).x.search(n, 20), -1);
        for (int n = 2; n <= 6; n++) {
            for (int p = 0; p < n; p++) due("the least of like ones", searched(n, p, plain(n)), p);
            due("no such place", searched(n, n, plain(n)), -3);
            int sum = n * (n - 1) / 2;
            due("the mean", searched(n, 20, plain(n)), n % 2 == 1 ? sum / n : sum * 2 / n);
            due("the mean", searched(n, 21, plain(n)), n % 2 == 1 ? 1 : 2);
        }
        for (int n = 2; n <= 6; n++) {
            says("in each the one that is sought is by told weights (0 to 99),");
            for (int t = 0; t < n; t++) {
                due("99", searched(n, 0, with(plain(n), t, 99)), 0);
                due("100", searched(n, 0, with(plain(n), t, 100)), -2);
                due("255", searched(n, 0, with(plain(n), t, 255)), -2);
                due("0", searched(n, 0, with(plain(n), t, 0)), 0);
            }
            says("and between any two told DAYS of travel (1 to 20; from where one is, TOWN 0, that one is looked at first):");
            for (int way = 0; way < n * n; way++) {
                boolean own = way / n == way % n;
                due("1", searched(n, 0, with(plain(n), n + way, 1)), 0);
                due("20", searched(n, 0, with(plain(n), n + way, 20)), 0);
                due("0", searched(n, 0, with(plain(n), n + way, 0)), own ? 0 : -2);
                due("21", searched(n, 0, with(plain(n), n + way, 21)), own ? 0 : -2);
                due("255", searched(n, 0, with(plain(n), n + way, 255)), own ? 0 : -2);
            }
        }
        due("TOWN 0 at once", searched(2, 20, 99, 0, 0, 20, 20, 0), 0);
        due("TOWN 0 at once", searched(2, 21, 99, 0, 0, 20, 20, 0), 1);
        due("TOWN 0 first, though nothing is there", searched(3, 0, 0, 1, 1, 0, 9, 9, 1, 0, 1, 1, 1, 0), 0);
        due("the way from 0 to 1", searched(2, 20, 0, 1, 0, 20, 1, 0), 20);
        due("the longest", searched(2, 20, 0, 99, 0, 20, 1, 0), 20);
        due("the longest", searched(2, 21, 0, 99, 0, 20, 1, 0), 1);
    }

    private static void searchOrders() {
        says("in which order one goes through all of them so that DAYS till one is found are fewest on the mean: "
            + "the sum of weights times DAYS till then, through all weights; the order (of like ones the least).");
        int[] far = {1, 1, 9, 0, 2, 3, 9, 0, 4, 9, 1, 0};
        int[] order = {0, 2, 1};
        for (int p = 0; p < 3; p++) due("the heavy one first", searched(3, p, far), order[p]);
        due("31 through 11", searched(3, 20, far), 31);
        due("31 through 11", searched(3, 21, far), 11);
        int[] even = {0, 1, 1, 0, 2, 2, 9, 0, 4, 9, 4, 0};
        for (int p = 0; p < 3; p++) due("of like ones the least", searched(3, p, even), p);
        due("8 through 2", searched(3, 20, even), 4);
        due("8 through 2", searched(3, 21, even), 1);
        due("one less, the way back", searched(3, 1, with(even, 10, 3)), 2);
        due("one more, the way there", searched(3, 1, with(even, 8, 5)), 2);
        due("one weight more", searched(3, 1, with(even, 2, 2)), 2);
        due("one day less, the first way", searched(3, 1, with(even, 5, 1)), 2);
        int[] six = plain(6);
        for (int t = 0; t < 5; t++) six[6 + 6 * t + t + 1] = 2;
        for (int t = 0; t < 6; t++) six[6 + 6 * t] = 20;
        int[] best = {0, 2, 1, 4, 3, 5};
        for (int p = 1; p < 6; p++) six[6 + 6 * best[p - 1] + best[p]] = 1;
        for (int t = 1; t < 6; t++) six[6 + t] = t == 2 ? 1 : 9;
        six[6 + 6 * 2 + 3] = 9;
        six[6 + 6 * 2 + 4] = 9;
        six[6 + 6 * 2 + 5] = 9;
        six[6 + 6 * 1 + 5] = 9;
        six[6 + 6 * 1 + 3] = 9;
        for (int p = 0; p < 6; p++) due("six", searched(6, p, six), best[p]);
        due("0 + 1 + 2 + 3 + 4 + 5 through 6", searched(6, 20, six), 5);
        due("0 + 1 + 2 + 3 + 4 + 5 through 6", searched(6, 21, six), 2);
        for (int n = 2; n <= 6; n++) {
            int[] here = plain(n);
            java.util.Arrays.fill(here, 1, n, 0);
            for (int p = 0; p < n; p++) due("all of it in TOWN 0: the least order", searched(n, p, here), p);
            due("all of it in TOWN 0", searched(n, 20, here), 0);
            due("all of it in TOWN 0", searched(n, 21, here), 1);
            int[] back = plain(n);
            for (int t = 1; t < n; t++) back[t] = 10 * t;
            for (int p = 1; p < n; p++) due("the last of all orders", searched(n, p, back), n - p);
        }
        due("the largest sum", searched(6, 20, largest()), 50);
        due("the largest sum", searched(6, 21, largest()), 1);
    }

    private static int[] largest() {
        int[] bytes = new int[42];
        java.util.Arrays.fill(bytes, 0, 6, 99);
        java.util.Arrays.fill(bytes, 6, 42, 20);
        return bytes;
    }
}
