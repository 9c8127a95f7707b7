/** The terms of pieces that are sanded, steamed, worn, cut, copied, kept and checked, sentence by sentence. */
final class PieceTerms extends Sentences {
    static void all() {
        sandingHeights();
        sandingWear();
        leastSanding();
        sandingOthers();
        turning();
        raising();
        fewestDoings();
        wornTries();
        cutters();
        cutterTwos();
        copies();
        mates();
        kept();
        checks();
        ownMemory();
        refusedCalls();
        constants();
    }

    private static int sand(Bench b, int k, int a, int by, int what) {
        return b.x.sanding(k, a, by, -1, 0, what, 0);
    }

    private static void sandingHeights() {
        says("SANDING: heights of a PIECE are changed (-9 to 9 each) so that its SLACK to one or two told PIECES is not above told ones");
        Bench b = new Bench();
        b.edge(1, "-9*8");
        b.edge(2, "9*8");
        for (int h = 0; h < 8; h++) {
            due("up to 9", sand(b, 0, 1, 0, h), 19);
            due("down to -9", sand(b, 0, 2, 0, h), 1);
        }
        due("work", sand(b, 0, 1, 0, 10), 72);
        due("not above 1", sand(b, 0, 1, 1, 10), 71);
        due("not above 60", sand(b, 0, 1, 60, 10), 12);
        due("from end to end", sand(b, 1, 1 + 2, 0, 10), 72);
        b.edge(3, "-9*8");
        due("from end to end", sand(b, 1, 3, 0, 10), 144);
        due("it is not changed", b.x.piece(1, 0), -9);
        Bench c = new Bench();
        c.edge(1, "0*7,4");
        c.edge(2, "0*7,-3");
        int[][] two = {{0, 6, -2}, {0, 7, 4}, {1, 6, 3}, {6, 1, 2}, {7, 0, 3}, {6, 0, -2}, {4, 3, 0}, {3, 3, -2}, {3, 4, 1}, {4, 2, -2}, {5, 2, 1}};
        for (int[] t : two) due("not above " + t[0] + " and " + t[1], c.x.sanding(0, 1, t[0], 2, t[1], 10, 0), t[2]);
    }

    private static void sandingWear() {
        says("(WEAR counts as it is; what is told and WEAR of both are 60 at most together):");
        Bench b = new Bench();
        b.edge(1, "-9*8");
        b.edge(2, "-9*8");
        int[][] wears = {{0, 0, 60, 12}, {0, 0, 61, -1}, {60, 0, 0, 12}, {61, 0, 0, -1}, {0, 60, 0, 12}, {0, 61, 0, -1}, {20, 20, 20, 12}, {20, 20, 21, -1},
            {21, 20, 20, -1}, {20, 21, 20, -1}, {99, 99, 0, -1}, {19, 20, 20, 13}};
        for (int[] w : wears) {
            b.x.wear(0, w[0]);
            b.x.wear(1, w[1]);
            due("WEAR " + w[0] + " and " + w[1] + ", told " + w[2], sand(b, 0, 1, w[2], 10), w[3]);
            b.x.wear(1, 0);
            b.x.wear(2, w[1]);
            if (w[0] <= 60) due("of the second one", b.x.sanding(0, 1, 60 - w[0], 2, w[2], 10, 0), w[3]);
            b.x.wear(2, 0);
        }
    }

    private static void sanded(Bench b, String call, int by, int work, int... heights) {
        due(call + ", work", sand(b, 0, 1, by, 10), work);
        for (int h = 0; h < heights.length; h++) due(call + ", height " + h, sand(b, 0, 1, by, h), heights[h] + 10);
    }

    private static void leastSanding() {
        says("the least sum of changes; of like ones the least EDGE (height by height, the lowest first);");
        Bench b = new Bench();
        b.edge(1, "0*6,-2,-1");
        sanded(b, "all of it", 0, 3, 1, 2, 0, 0, 0, 0, 0, 0);
        sanded(b, "up: the last one first", 1, 2, 0, 2, 0, 0, 0, 0, 0, 0);
        sanded(b, "up: the last one first", 2, 1, 0, 1, 0, 0, 0, 0, 0, 0);
        sanded(b, "nothing to do", 3, 0, 0, 0, 0, 0, 0, 0, 0, 0);
        b.edge(1, "2,0*5,2,1");
        sanded(b, "down: the first one first", 1, 4, -1, -2, 0, 0, 0, 0, 0, -1);
        sanded(b, "down: the first one first", 2, 3, -1, -2, 0, 0, 0, 0, 0, 0);
        sanded(b, "down: the first one first", 4, 1, -1, 0, 0, 0, 0, 0, 0, 0);
        b.edge(1, "2,0*5,-2,1");
        sanded(b, "down ahead of up", 4, 1, -1, 0, 0, 0, 0, 0, 0, 0);
        sanded(b, "down ahead of up", 3, 2, -1, 0, 0, 0, 0, 0, 0, -1);
        sanded(b, "down ahead of up", 2, 3, -1, 0, 0, 0, 0, 0, 0, -2);
        sanded(b, "down ahead of up", 1, 4, -1, 1, 0, 0, 0, 0, 0, -2);
    }

    private static void sandingOthers() {
        says("how many of the others (of told PEOPLE, all but k) have no more SLACK to it then than is told.");
        Bench b = Bench.people(3, 2);
        b.edge(1, "0*7,-3");
        b.edge(2, "0*7,1");
        b.x.wear(3, 1);
        int[] more = {0, 1, 2, 3, 4, 5, 99};
        int[] others = {1, 1, 2, 3, 4, 4, 4};
        for (int t = 0; t < more.length; t++) due("others, " + more[t], b.x.sanding(0, 1, 0, -1, 0, 11, more[t]), others[t]);
        b.x.person(11, 0, 0);
        due("of told PEOPLE", b.x.sanding(0, 1, 0, -1, 0, 11, 99), 5);
        due("all but k", b.x.sanding(5, 1, 0, -1, 0, 11, 99), 6);
        b.x.dies(4);
        due("the dead are told", b.x.sanding(0, 1, 0, -1, 0, 11, 99), 5);
        b.x.wear(0, 3);
        due("WEAR of k: nothing to do", b.x.sanding(0, 1, 0, -1, 0, 10, 0), 0);
        due("WEAR of k", b.x.sanding(0, 1, 0, -1, 0, 11, 0), 5);
    }

    /** Eight flat heights but for one. */
    private static String one(int place, int height) {
        StringBuilder s = new StringBuilder();
        for (int h = 0; h < 8; h++) s.append(h > 0 ? "," : "").append(h == place ? height : 0);
        return s.toString();
    }

    private static void steamed(Bench b, String call, int by, int doings, int turns, int raising) {
        int[] want = {doings, turns, raising};
        for (int what = 0; what < 3; what++) due(call, b.x.steaming(0, 1, by, what), want[what]);
    }

    private static void turning() {
        says("STEAMING: a PIECE is turned (height k is then what k + 1 was, the last one what the first was) 0 to 7 times");
        for (int from = 0; from < 8; from++) {
            for (int to = 0; to < 8; to++) {
                Bench b = new Bench();
                b.edge(0, one(from, 9));
                b.edge(1, one(7 - to, -9));
                int turns = (from - to + 8) % 8;
                steamed(b, "from " + from + " to " + to, 0, turns, turns, 10);
            }
        }
    }

    private static void raising() {
        says("and all its heights are raised by -9 to 9 (each -9 to 9 then at the bounds):");
        for (int r = -9; r <= 9; r++) {
            Bench b = new Bench();
            b.edge(1, (r > 0 ? "-" : "") + Math.abs(r) + "*8");
            steamed(b, "raised by " + r, 0, Math.abs(r), 0, 10 + r);
            steamed(b, "raised by " + r + ", one less", 8, Math.max(0, Math.abs(r) - 1), 0, 10 + (r > 0 ? r - 1 : r < 0 ? r + 1 : 0));
            steamed(b, "raised by " + r + ", 7 is not 8", 7, Math.abs(r), 0, 10 + r);
        }
        Bench end = new Bench();
        end.edge(0, "-1*8");
        end.edge(1, "-9*8");
        steamed(end, "10 is too far", 7, -2, -2, -2);
        steamed(end, "9 of 10", 8, 9, 0, 19);
        end.edge(0, "1*8");
        end.edge(1, "9*8");
        steamed(end, "-10 is too far", 7, -2, -2, -2);
        steamed(end, "-9 of -10", 8, 9, 0, 1);
        Bench b = new Bench();
        b.edge(0, "9*3,8*5");
        b.edge(1, "-9*8");
        steamed(b, "9 at most", 0, 1, 0, 11);
        b.edge(0, "-9*3,-7*5");
        b.edge(1, "9*8");
        steamed(b, "-9 at least", 0, 2, 0, 8);
    }

    private static void fewestDoings() {
        says("so that its SLACK to a told PIECE is not above a told one: the fewest doings (turns, and the amount of raising); "
            + "of like ones the fewest turns, then the lowest raising.");
        Bench b = new Bench();
        b.edge(0, "-9*4,9*4");
        b.edge(1, "9*4,-9*4");
        b.x.wear(0, 41);
        steamed(b, "one turn or one raising, either way", 99, 1, 0, 9);
        b.x.wear(0, 40);
        steamed(b, "one turn alone", 99, 1, 1, 10);
        b.x.wear(0, 45);
        steamed(b, "as it is", 99, 0, 0, 10);
        b.x.wear(0, 0);
        b.x.wear(1, 9);
        steamed(b, "WEAR of the other one", 99, 1, 1, 10);
        b.x.wear(1, 0);
        steamed(b, "two turns or one and more", 98, 2, 2, 10);
        steamed(b, "so many turns", 0, 4, 4, 10);
        Bench never = new Bench();
        never.edge(0, "5*8");
        never.edge(1, "-5*4,5*4");
        steamed(never, "40 at least", 40, 0, 0, 10);
        steamed(never, "40 at least", 39, -2, -2, -2);
        for (int wear = 0; wear < 99; wear++) {
            never.x.wear(0, wear / 2);
            never.x.wear(1, wear - wear / 2);
            due("told and WEAR", never.x.steaming(0, 1, Math.max(0, 40 - wear), 0), 0);
            if (wear < 40) due("told and WEAR", never.x.steaming(0, 1, 39 - wear, 0), -2);
        }
    }

    private static void wornTries() {
        says("WORN: how many tries more two PEOPLE of both SIDES need till they FIT by WEAR alone (w, f as they are now; each PIECE of theirs 99 at most).");
        Bench b = Bench.people(1, 1);
        b.edge(0, "9*8");
        for (int f = 0; f <= 99; f += 9) {
            for (int w = 0; w <= 9; w += 3) {
                b.law("f" + f + "(1=1);w" + w + "(1=1)");
                int more = Math.max(0, 72 - f);
                due("f " + f + ", w " + w, b.x.worn(0, 1), more == 0 ? 0 : w == 0 ? -2 : (more + 2 * w - 1) / (2 * w));
            }
        }
        b.law("f70(s=72);w1(s=72)");
        due("w as it is now, f has no s", b.x.worn(0, 1), 36);
        b.law("f70(1=1);w1(s=72)");
        due("one try", b.x.worn(0, 1), 1);
        b.x.wear(1, 2);
        due("they FIT", b.x.worn(0, 1), 0);
        b.edge(1, "9*8");
        b.law("f0(1=1);w9(1=1)");
        int[][] wears = {{99, 45, 0}, {99, 44, 1}, {99, 0, 5}, {0, 99, 5}, {0, 0, 8}, {99, 99, 0}, {97, 0, 5}, {98, 98, 0}};
        for (int[] w : wears) {
            b.x.wear(0, w[0]);
            b.x.wear(1, w[1]);
            due("WEAR " + w[0] + " and " + w[1], b.x.worn(0, 1), w[2]);
        }
        b.law("w1(1=1)");
        b.x.wear(0, 0);
        b.x.wear(1, 0);
        due("72 tries", b.x.worn(0, 1), 72);
        b.x.wear(0, 99);
        due("99 at most: 45 of the other one alone", b.x.worn(0, 1), 45);
        due("nothing is worn", b.x.piece(1, 8), 0);
        Bench two = Bench.people(2, 1);
        two.edge(0, "9*8");
        two.edge(1, "9*8");
        two.x.wear(0, 99);
        two.x.weds(1, 2);
        two.x.dies(1);
        two.law("w1(1=1)");
        two.edge(2, "9*8");
        due("the nearest PIECE of two", two.x.worn(0, 2), 45);
        two.x.wear(1, 40);
        due("each PIECE of theirs wears", two.x.worn(0, 2), 5);
    }

    private static int cut(Bench b, int n, int what, int... bytes) {
        b.bytes(bytes);
        return b.x.cutter(n, what);
    }

    private static String text(int[] heights) {
        StringBuilder s = new StringBuilder();
        for (int h = 0; h < 8; h++) s.append(h > 0 ? "," : "").append(heights[h]);
        return s.toString();
    }

    private static void cutters() {
        says("A CUTTER's RULE: a shift (0 to 7), a sign (0: the same, 1: the other one) and more (-3 to 3): "
            + "height (k + shift) modulo 8 of the second PIECE is that height k of the first one, by the sign, and more.");
        int[] from = {1, 2, -4, 5, 0, 4, -1, 3};
        for (int shift = 0; shift < 8; shift++) {
            for (int sign = 0; sign < 2; sign++) {
                Bench b = new Bench();
                b.edge(5, text(from));
                for (int more = -4; more <= 4; more++) {
                    int[] made = new int[8];
                    for (int k = 0; k < 8; k++) made[(k + shift) % 8] = (sign == 0 ? from[k] : -from[k]) + more;
                    due("a right EDGE", b.edge(3, text(made)) > 0, true);
                    boolean rule = more >= -3 && more <= 3;
                    due("how many", cut(b, 1, 0, 5, 3), rule ? 1 : 0);
                    due("which", cut(b, 1, 1, 5, 3), rule ? 14 * shift + 7 * sign + more + 3 : -2);
                    due("makes", cut(b, 1, 15, 5, 3), rule ? 3 : -2);
                }
            }
        }
    }

    private static void cutterTwos() {
        says("By told twos of PIECES (1 to 5): rules that fit all: how many; the first (by shift, sign, more);");
        Bench b = new Bench();
        b.edge(0, "1,0,1,0,1,0,1,0");
        b.edge(1, "0,1,0,1,0,1,0,1");
        due("shift 0, the other sign, 1 more is the first of 8", cut(b, 1, 0, 0, 1), 8);
        due("shift 0, the other sign, 1 more is the first of 8", cut(b, 1, 1, 0, 1), 7 + 1 + 3);
        due("flat ones: shift 0, the same", cut(b, 1, 1, 2, 3), 3);
        due("flat ones: 16", cut(b, 1, 0, 2, 3), 16);
        due("those of both twos", cut(b, 2, 0, 0, 1, 2, 3), 4);
        due("those of both twos", cut(b, 2, 1, 0, 1, 2, 3), 14 + 3);
        b.edge(4, "1*8");
        due("none of three", cut(b, 3, 0, 0, 1, 2, 3, 2, 4), 0);
        due("none of three", cut(b, 3, 1, 0, 1, 2, 3, 2, 4), -2);
        due("two of the three", cut(b, 2, 1, 0, 1, 2, 4), 7 + 1 + 3);
        for (int n = 1; n <= 5; n++) {
            int[] twos = {2, 3, 2, 3, 2, 3, 2, 3, 2, 3};
            due("n " + n, cut(b, n, 0, twos), 16);
            twos[2 * n - 1] = 4;
            due("the last of n " + n, cut(b, n, 0, twos), n == 1 ? 16 : 0);
            twos[2 * n - 1] = 12;
            due("the last of n " + n, cut(b, n, 0, twos), -3);
            twos[2 * n - 1] = 2;
            due("the last of n " + n, cut(b, n, 0, twos), -3);
        }
        due("0 twos", cut(b, 0, 0, 2, 3), -1);
        due("6 twos", new Bench().bytes(2, 3, 2, 3, 2, 3, 2, 3, 2, 3, 2, 3).x.cutter(6, 0), -1);
        says("which PIECE the first such rule makes of a told one (the lowest that is just so).");
        Bench m = new Bench();
        for (int k = 0; k < 12; k++) m.edge(k, k + 1 < 10 ? k + 1 + "*8" : "-" + (k - 8) + "*8");
        int[] makes = {2, 3, 4, 5, 6, 7, 8, -2, -2, 0, -2, 9};
        for (int k = 0; k < 12; k++) due("2 more of " + k, cut(m, 1, 10 + k, 0, 2), makes[k]);
        m.edge(1, "3*8");
        due("the lowest that is just so", cut(m, 1, 10, 0, 2), 1);
        m.edge(2, "4*8");
        m.edge(0, "3*8");
        due("the PIECE itself", cut(m, 1, 10, 0, 1), 0);
    }

    private static void copies() {
        says("COPIES: PIECES with the same EDGE: how many twos; whose WEAR is less in the first two (the copy; alike: the higher one).");
        Bench b = new Bench();
        for (int i = 1; i < 12; i += 2) b.x.person(i, 0, 0);
        for (int i = 1; i < 12; i += 2) b.edge(i, one(0, 1 + i / 2));
        for (int what = 0; what < 4; what++) due("none", b.x.copies(what), what == 0 ? 0 : -2);
        b.edge(11, one(7, 4));
        b.edge(7, one(7, 4));
        int[] one = {1, 7, 11, 11};
        for (int what = 0; what < 4; what++) due("alike: the higher one", b.x.copies(what), one[what]);
        b.x.wear(11, 1);
        due("the lower one's is less", b.x.copies(3), 7);
        b.x.wear(7, 1);
        due("alike", b.x.copies(3), 11);
        b.x.wear(7, 99);
        due("the higher one's is less", b.x.copies(3), 11);
        b.edge(3, one(7, 4));
        b.x.wear(3, 2);
        int[] three = {3, 3, 7, 3};
        for (int what = 0; what < 4; what++) due("three twos, the first", b.x.copies(what), three[what]);
        b.edge(4, one(7, 4));
        due("of nobody told", b.x.copies(0), 3);
        b.edge(3, one(6, 4));
        due("one height", b.x.copies(0), 1);
        due("all", Bench.people(6, 6).x.copies(0), 66);
    }

    private static void mates() {
        says("A MATE: the heights that a PIECE must have to have no SLACK to a told one without WEAR.");
        Bench b = Bench.people(1, 1);
        b.edge(0, "-9,-5,-1,0,1,2,7,9");
        b.x.wear(0, 9);
        int[] mate = {-9, -7, -2, -1, 0, 1, 5, 9};
        for (int h = 0; h < 8; h++) due("height " + h, b.x.mate(0, h), 10 + mate[h]);
        b.edge(1, text(mate));
        b.x.wear(0, 0);
        due("no SLACK", b.x.slack(0, 1, 0), 0);
    }

    private static void kept() {
        says("KEPT: PEOPLE, PIECES, JOURNEYS (and how far), who tried whom, THE DAY, X; UNDONE: as they were KEPT last.");
        Bench b = Bench.people(3, 3);
        b.front(0, 3);
        b.front(3, 1);
        b.x.wear(3, 1);
        b.law("f2(1=1);w1(1=1);c5(1=1);b1(1=1)");
        b.journey(2, "5,4,3*5");
        b.x.days(2);
        String before = b.state();
        b.x.keep();
        b.x.days(7);
        b.x.seed(9);
        b.x.person(6, 0, 1);
        b.x.dies(5);
        b.x.wear(0, 44);
        b.front(9, 4);
        b.journey(2, "1");
        b.x.undo();
        b.unchanged("undone", before);
        int[] towns = {3, 3, 3, 3, 3, 3};
        for (int town : towns) {
            b.x.days(1);
            due("how far", b.x.personIs(2, 1), town);
        }
        due("how far", b.x.personIs(2, 7), 0);
        b.x.keep();
        String later = b.state();
        b.x.days(1);
        b.x.undo();
        b.unchanged("KEPT last", later);
        b.x.days(3);
        b.x.undo();
        b.unchanged("undone once more", later);
        b.law("f9(1=1)");
        b.feed("abc");
        b.x.undo();
        due("THE LAW is not KEPT", b.x.count(4), 1);
        due("the tape is not KEPT", b.x.count(5), 20);
    }

    private static void checks() {
        says("CHECK of a PIECE: its heights and 9: right, or the first that is not so.");
        Bench b = new Bench();
        b.edge(4, "-9,9,0,-1,1,8,-8,5");
        int[] right = {0, 18, 9, 8, 10, 17, 1, 14};
        due("right", b.bytes(right).x.check(4, 8), -1);
        for (int h = 0; h < 8; h++) {
            for (int off : new int[] {-1, 1, 100}) {
                int[] other = right.clone();
                other[h] = right[h] + off & 255;
                due("height " + h, b.bytes(other).x.check(4, 8), h);
                due("behind it", b.bytes(other).x.check(4, h), -1);
                other[7] = 99;
                due("the first", b.bytes(other).x.check(4, 8), h);
            }
        }
    }

    private static void ownMemory() {
        says("All memory is the land's own.");
        Bench one = Bench.people(2, 2);
        Bench other = new Bench();
        String before = other.state();
        one.law("f9(1=1);c5(1=1);b9(1=1)");
        one.front(5, 5);
        one.x.wear(6, 6);
        one.journey(0, "1,2");
        one.x.keep();
        one.x.days(5);
        one.feed("xyz");
        other.unchanged("of another object", before);
        due("nothing is KEPT", other.x.undo(), false);
        due("a tape of its own", other.x.check(0, 1), -2);
    }

    private static void refusedCalls() {
        says("A call that is refused (NONE, false) changes nothing but the tape, where it is told.");
        Bench b = Bench.people(2, 2);
        b.front(0, 5);
        b.law("f2(1=1);w1(1=1);c5(1=1);b1(1=1);l9(1=1)");
        b.journey(1, "1,0,5*4");
        b.x.days(2);
        b.x.keep();
        b.x.weds(0, 3);
        b.feed("1*8").feed("f9(1=1)");
        String before = b.state();
        refuse(b);
        b.unchanged("refused calls", before);
        b.x.undo();
        b.feed("x");
        String kept = b.state();
        due("a FAULT empties the tape", b.x.law(1) < 0 && b.x.count(5) == 0, true);
        b.feed("").feed("").feed("");
        b.unchanged("a FAULT, law", kept);
        due("a FAULT empties the tape", b.x.edge(0, 1) < -999 && b.x.count(5) == 0, true);
        b.feed("").feed("").feed("");
        b.unchanged("a FAULT, edge", kept);
        due("a FAULT empties the tape", b.x.journey(1, 1) < -999 && b.x.count(5) == 0, true);
        b.feed("").feed("").feed("");
        b.unchanged("a FAULT, journey", kept);
        due("no PIECES: the tape is empty", b.x.cutter(1, 0) == -3 && b.x.count(5) == 0, true);
        b.feed("").feed("").feed("");
        b.unchanged("no PIECES", kept);
        due("no weight: the tape is empty", b.x.search(2, 20) == -2 && b.x.count(5) == 0, true);
        b.feed("").feed("").feed("");
        b.unchanged("no weight", kept);
    }

    private static void refuse(Bench b) {
        boolean done = b.x.person(0, 1, 1) || b.x.person(12, 0, 0) || b.x.wear(0, 100) || b.x.wear(12, 0) || b.x.dies(7) || b.x.weds(0, 2)
            || b.x.weds(1, 3) || b.x.seed(65536) || b.x.seed(-1);
        due("refused", done, false);
        int[] answers = {b.x.law(0), b.x.law(241), b.x.law(41), b.x.edge(12, 3), b.x.edge(0, 41), b.x.edge(0, 0), b.x.journey(5, 1), b.x.journey(0, 41),
            b.x.days(0), b.x.days(61), b.x.tried(0, 0), b.x.tried(1, 15), b.x.personIs(5, 0), b.x.personIs(0, 9), b.x.slack(0, 5, 0), b.x.locks(4),
            b.x.most(2), b.x.stable(4), b.x.unrest(3), b.x.search(1, 0), b.x.search(6, 0), b.x.sanding(0, 0, 0, -1, 0, 10, 0), b.x.steaming(0, 0, 0, 0),
            b.x.worn(0, 1), b.x.cutter(0, 0), b.x.cutter(6, 0), b.x.cutter(1, 2), b.x.copies(4), b.x.mate(0, 8), b.x.count(7)};
        for (int t = 0; t < answers.length; t++) due("refused, place " + t, answers[t], -1);
        due("refused", b.x.piece(12, 0), -100);
        due("refused", b.x.check(12, 0), -2);
        due("refused", b.x.check(0, 9), -2);
    }

    private static void constants() {
        says("The constants: `NONE = -1`: There is none.");
        due("NONE", PuzzleWed.NONE, -1);
    }
}
