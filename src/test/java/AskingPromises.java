/** Promises 11 to 25, 29 and 30, what is asked, sentence by sentence. */
final class AskingPromises extends Sentences {
    static void all() {
        tried();
        personIs();
        piece();
        slack();
        locks();
        most();
        stable();
        unrest();
        search();
        sanding();
        sandingRefused();
        steaming();
        worn();
        cutter();
        copies();
        mate();
        check();
        count();
    }

    private static void tried() {
        section("Promise 11");
        says("DAYS (1 to 60; as many as can) that are tried, what 0 twos that WED, 1 tries, 2 twos that part, 3 twos that are WED then, "
            + "10 + i to whom told PERSON i is WED then (-2: to nobody), 30 + k WEAR of PIECE k then;");
        Bench b = Bench.people(1, 3);
        b.front(1, 1);
        b.law("f0(1=1);w1(1=1);c10(1=1);b1(1=1)");
        String before = b.state();
        int[] n = {1, 2, 3, 4, 5, 60};
        for (int t = 0; t < n.length; t++) {
            for (int what = 0; what < 4; what++) due("tried(" + n[t] + ", " + what + ")", b.x.tried(n[t], what), wanted(n[t], what));
        }
        due("to whom", b.x.tried(2, 10), 2);
        due("to whom", b.x.tried(2, 12), 0);
        due("to nobody", b.x.tried(2, 11), -2);
        due("to nobody", b.x.tried(1, 10), -2);
        due("WEAR", b.x.tried(1, 30), 1);
        due("WEAR", b.x.tried(60, 31), 1);
        due("WEAR", b.x.tried(60, 41), 0);
        b.unchanged("tried", before);
        b.x.wear(11, 99);
        due("WEAR of nobody's PIECE", b.x.tried(1, 41), 99);
        b.x.person(11, 0, 3);
        due("PERSON 11", b.x.tried(1, 21), -2);
        b.x.dies(11);
        due("a dead one is told", b.x.tried(1, 21), -2);
        Bench last = Bench.people(1, 1);
        last.front(0, 1);
        for (int d = 0; d < 166; d++) last.x.days(60);
        last.x.days(38);
        last.x.person(2, 1, 0);
        due("as many as can: one", last.x.tried(60, 1), 1);
        last.x.days(1);
        last.x.person(3, 1, 0);
        due("as many as can: none", last.x.tried(60, 1), 0);
        says("NONE: no such ones.");
        Bench r = Bench.people(1, 1);
        before = r.state();
        for (int days : new int[] {0, -1, 61, 62, LEAST, MOST}) {
            for (int what : new int[] {0, 3, 10, 30}) due("no such n " + days, r.x.tried(days, what), -1);
        }
        for (int what : new int[] {-1, 4, 5, 9, 12, 21, 22, 29, 42, 43, LEAST, MOST, LEAST + 10, MOST - 9}) due("no such what " + what, r.x.tried(1, what), -1);
        r.unchanged("refused", before);
        due("60 and 41", r.x.tried(60, 41), 0);
    }

    /** Of 0, who can't WED 1, then WEDS 2 and 3 for two DAYS each. */
    private static int wanted(int n, int what) {
        int[] weddings = {0, 0, 1, 1, 2, 2, 2};
        int[] tries = {0, 1, 2, 2, 3, 3, 3};
        int[] parted = {0, 0, 0, 1, 1, 2, 2};
        int[] wed = {0, 0, 1, 0, 1, 0, 0};
        return new int[][] {weddings, tries, parted, wed}[what][Math.min(n, 6)];
    }

    private static void personIs() {
        section("Promise 12");
        says("Of a told PERSON, what 0 SIDE, 1 TOWN, 2 to whom it is WED (-2: nobody), 3 CREAKS, 4 whether it lives (1, 0), 5 PIECES it holds (bits), "
            + "6 whom it FITS (bits, those that live, but itself), 7 DAYS left of its JOURNEY, 8 whom it has tried (bits);");
        Bench b = new Bench();
        b.x.person(0, 0, 5);
        b.x.person(11, 1, 5);
        b.x.person(3, 1, 4);
        b.x.person(4, 1, 5);
        b.front(0, 2);
        b.front(3, 9);
        b.law("f2(1=1);c10(1=1);b9(1=1)");
        b.journey(0, "4,5*9");
        b.x.days(3);
        int[] of0 = {0, 5, 4, 2, 1, 1, 1 << 4 | 1 << 11, 8, 1 << 3 | 1 << 4};
        int[] of3 = {1, 4, -2, 0, 1, 8, 0, 0, 1};
        int[] of4 = {1, 5, 0, 2, 1, 16, 1 | 1 << 11, 0, 1};
        int[] of11 = {1, 5, -2, 0, 1, 1 << 11, 1 | 1 << 4, 0, 0};
        for (int what = 0; what < 9; what++) {
            due("0, what " + what, b.x.personIs(0, what), of0[what]);
            due("3, what " + what, b.x.personIs(3, what), of3[what]);
            due("4, what " + what, b.x.personIs(4, what), of4[what]);
            due("11, what " + what, b.x.personIs(11, what), of11[what]);
        }
        b.x.dies(4);
        int[] dead = {1, 5, -2, 2, 0, 0, 0, 0, 1};
        int[] widow = {0, 5, -2, 2, 1, 17, 1 << 11, 8, 1 << 3 | 1 << 4};
        for (int what = 0; what < 9; what++) {
            due("the dead one, what " + what, b.x.personIs(4, what), dead[what]);
            due("the widow, what " + what, b.x.personIs(0, what), widow[what]);
        }
        says("NONE for others.");
        for (int i : NOBODIES) {
            for (int what = 0; what < 9; what++) due("nobody", b.x.personIs(i, what), -1);
        }
        for (int what = 0; what < 9; what++) due("not told", b.x.personIs(1, what), -1);
        for (int what : new int[] {-1, 9, 10, LEAST, MOST}) due("no such what", b.x.personIs(0, what), -1);
    }

    private static void piece() {
        section("Promise 13");
        says("Height h of a PIECE (h 0 to 7), its WEAR (8), who holds it (9; -2: nobody that lives);");
        Bench b = Bench.people(1, 1);
        for (int k = 0; k < 12; k++) {
            b.edge(k, "-9,9,-8,8,1,2,3,4");
            b.x.wear(k, 90 - k);
            int[] is = {-9, 9, -8, 8, 1, 2, 3, 4, 90 - k, k < 2 ? k : -2};
            for (int h = 0; h < 10; h++) due("piece(" + k + ", " + h + ")", b.x.piece(k, h), is[h]);
        }
        b.x.weds(0, 1);
        b.x.dies(0);
        due("the widow", b.x.piece(0, 9), 1);
        b.x.dies(1);
        due("nobody that lives", b.x.piece(0, 9), -2);
        due("nobody that lives", b.x.piece(1, 9), -2);
        says("-100: no such ones.");
        for (int k : NOBODIES) due("no PIECE", b.x.piece(k, 0), -100);
        for (int h : new int[] {-1, 10, 11, LEAST, MOST}) due("no height", b.x.piece(0, h), -100);
    }

    private static void slack() {
        section("Promise 14");
        says("SLACK of two told PEOPLE (NONE: one holds none, no such ones, one twice), what 0; whether they FIT (1, 0; what 1), how the first one likes the second one (2).");
        Bench b = Bench.people(2, 1);
        b.x.person(11, 1, 5);
        b.front(0, 4);
        b.law("f3(i=0);f4(1=1);l5(i=0);l0(i=2);l200(1=1)");
        int[][] all = {{0, 1, 4, 0, 5}, {1, 0, 4, 0, 99}, {0, 2, 4, 0, 5}, {2, 0, 4, 0, 0}, {1, 2, 0, 1, 99}, {11, 0, 4, 0, 99}, {0, 11, 4, 0, 5}, {11, 1, 0, 1, 99}};
        for (int[] a : all) {
            for (int what = 0; what < 3; what++) due("slack(" + a[0] + ", " + a[1] + ", " + what + ")", b.x.slack(a[0], a[1], what), a[2 + what]);
        }
        for (int what = 0; what < 3; what++) {
            for (int i : NOBODIES) due("nobody", Math.max(b.x.slack(i, 0, what), b.x.slack(0, i, what)), -1);
            due("not told", b.x.slack(3, 0, what), -1);
            due("not told", b.x.slack(0, 3, what), -1);
            for (int i = 0; i < 12; i++) due("one twice", b.x.slack(i, i, what), -1);
        }
        for (int what : new int[] {-1, 3, 4, LEAST, MOST}) due("no such what", b.x.slack(0, 1, what), -1);
        b.x.dies(11);
        for (int what = 0; what < 3; what++) {
            due("one holds none", b.x.slack(0, 11, what), -1);
            due("one holds none", b.x.slack(11, 0, what), -1);
        }
    }

    private static void locks() {
        section("Promise 15");
        says("LOCKS, what 0 how many, 1 to 3 those of the first (-2: none);");
        Bench b = Bench.people(2, 0);
        int[] none = {0, -2, -2, -2};
        for (int what = 0; what < 4; what++) due("two", b.x.locks(what), none[what]);
        b.x.person(7, 1, 0);
        int[] one = {1, 0, 1, 7};
        for (int what = 0; what < 4; what++) due("three", b.x.locks(what), one[what]);
        b.x.person(6, 1, 0);
        int[] four = {4, 0, 1, 6};
        for (int what = 0; what < 4; what++) due("four", b.x.locks(what), four[what]);
        says("NONE: no such what.");
        for (int what : new int[] {-1, 4, 5, LEAST, MOST}) due("what " + what, b.x.locks(what), -1);
    }

    private static void most() {
        section("Promise 16");
        says("MOST, what 20 how many, 21 SLACK together, else whom PERSON what of SIDE 0 gets (-2: nobody);");
        Bench b = new Bench();
        b.x.person(11, 0, 0);
        b.x.person(0, 1, 3);
        due("how many", b.x.most(20), 1);
        due("SLACK", b.x.most(21), 0);
        due("PERSON 11", b.x.most(11), 0);
        b.x.person(4, 0, 0);
        due("the lower one", b.x.most(4), 0);
        due("nobody", b.x.most(11), -2);
        b.front(4, 2);
        b.law("f2(1=1)");
        due("SLACK together", b.x.most(21), 0);
        due("the least SLACK", b.x.most(11), 0);
        due("nobody", b.x.most(4), -2);
        says("NONE: no such ones.");
        for (int what : new int[] {-1, 0, 1, 5, 12, 13, 19, 22, 23, LEAST, MOST}) due("what " + what, b.x.most(what), -1);
        b.x.dies(11);
        due("a dead one", b.x.most(11), -1);
        b.x.dies(0);
        due("a dead one of SIDE 1", b.x.most(0), -1);
        due("who lives gets nobody", b.x.most(4), -2);
    }

    private static void stable() {
        section("Promise 17");
        says("NONE WOULD LEAVE, what 20 how many are WED then, else whom PERSON what, that lives, gets (-2: nobody);");
        Bench b = new Bench();
        b.x.person(11, 0, 0);
        b.x.person(0, 1, 3);
        due("no likings", b.x.stable(20), 0);
        due("nobody", b.x.stable(11), -2);
        due("nobody", b.x.stable(0), -2);
        b.law("l1(1=1)");
        due("how many", b.x.stable(20), 1);
        due("PERSON 11", b.x.stable(11), 0);
        due("PERSON 0", b.x.stable(0), 11);
        b.x.person(4, 0, 0);
        due("the lower one", b.x.stable(4), 0);
        due("nobody", b.x.stable(11), -2);
        says("NONE: no such ones.");
        for (int what : new int[] {-1, 1, 5, 12, 13, 19, 21, 22, LEAST, MOST}) due("what " + what, b.x.stable(what), -1);
        b.x.dies(4);
        due("a dead one", b.x.stable(4), -1);
        b.x.dies(0);
        due("a dead one", b.x.stable(0), -1);
        due("who lives gets nobody", b.x.stable(11), -2);
        due("how many", b.x.stable(20), 0);
    }

    private static void unrest() {
        section("Promise 18");
        says("UNREST, what 0 how many, 1, 2 of the first the one of SIDE 0, of SIDE 1 (-2: none);");
        Bench b = new Bench();
        b.x.person(11, 0, 0);
        b.x.person(0, 1, 3);
        b.law("l1(1=1)");
        int[] one = {1, 11, 0};
        for (int what = 0; what < 3; what++) due("one", b.x.unrest(what), one[what]);
        b.x.person(10, 0, 0);
        int[] two = {2, 10, 0};
        for (int what = 0; what < 3; what++) due("two", b.x.unrest(what), two[what]);
        b.x.weds(10, 0);
        int[] none = {0, -2, -2};
        for (int what = 0; what < 3; what++) due("none", b.x.unrest(what), none[what]);
        says("NONE: no such what.");
        for (int what : new int[] {-1, 3, 4, LEAST, MOST}) due("what " + what, b.x.unrest(what), -1);
    }

    private static void search() {
        section("Promise 19");
        says("A SEARCH by the first n + n times n bytes of the tape (weights; then DAYS from TOWN to TOWN, row by row, those of one to itself are not looked at; empty then), "
            + "what 20 above, 21 below the line of the mean, without a common divisor, else the TOWN at place what of the order;");
        int[] two = {6, 4, 255, 15, 1, 100};
        int[] whats = {20, 21, 0, 1};
        int[] want = {6, 1, 0, 1};
        for (int t = 0; t < 4; t++) {
            Bench b = new Bench().bytes(two);
            due("60 through 10", b.x.search(2, whats[t]), want[t]);
            due("empty then", b.x.count(5), 0);
        }
        int[] three = {1, 2, 3, 0, 20, 4, 9, 0, 9, 9, 5, 0};
        int[] wants = {5, 1, 0, 2, 1};
        int[] asks = {20, 21, 0, 1, 2};
        for (int t = 0; t < 5; t++) due("0, 2 on day 4, 1 on day 9", new Bench().bytes(three).x.search(3, asks[t]), wants[t]);
        Bench more = new Bench().bytes(two).feed("more");
        due("the first 6 of 40", more.x.search(2, 20), 6);
        due("empty then", more.x.count(5), 0);
        says("-2: no weight above 0, a byte out of bounds;");
        int[][] wrong = {{0, 0, 0, 1, 1, 0}, {100, 1, 0, 1, 1, 0}, {1, 100, 0, 1, 1, 0}, {1, 1, 0, 0, 1, 0}, {1, 1, 0, 1, 0, 0}, {1, 1, 0, 21, 1, 0},
            {1, 1, 0, 1, 21, 0}, {255, 1, 0, 1, 1, 0}, {1, 1, 0, 255, 1, 0}};
        for (int[] w : wrong) {
            Bench b = new Bench().bytes(w);
            due("-2", b.x.search(2, 20), -2);
            due("empty then", b.x.count(5), 0);
        }
        due("weights 0 and 99", new Bench().bytes(0, 99, 0, 20, 1, 0).x.search(2, 20), 20);
        due("weights 1 and 0", new Bench().bytes(1, 0, 0, 20, 1, 0).x.search(2, 20), 0);
        says("-3: no such place;");
        for (int n = 2; n <= 4; n++) {
            for (int what : new int[] {-1, n, n + 1, 19, 22, LEAST, MOST}) {
                Bench b = new Bench().bytes(1, 1, 1, 1, 1, 1, 1, 1, 1, 1, 1, 1, 1, 1, 1, 1, 1, 1, 1, 1);
                due("n " + n + ", what " + what, b.x.search(n, what), -3);
                due("empty then", b.x.count(5), 0);
            }
        }
        says("NONE: no such n, it has not so many (the tape stays).");
        Bench t = new Bench();
        due("an empty tape", t.x.search(2, 20), -1);
        t.bytes(two);
        for (int n : new int[] {1, 0, -1, 7, 8, LEAST, MOST, 1 << 16, 5, 6}) due("n " + n, t.x.search(n, 20), -1);
        due("the tape stays", t.x.count(5), 20);
        t.feed("");
        due("40 bytes: not 42", t.x.search(6, 20), -1);
        due("the tape stays", t.x.count(5), 40);
        due("40 bytes: 30", t.x.search(5, 20), -2);
        t.bytes(1, 1, 1, 1, 1, 1, 1, 1, 1, 1, 1, 1, 1, 1, 1, 1, 1, 1, 1, 1);
        due("20 bytes: 20", t.x.search(4, 20), 3);
    }

    private static void sanding() {
        section("Promise 20");
        says("SANDING PIECE k for PIECE a by so much, and PIECE b (NONE: none) by so much, what 10 the work, 11 how many other PIECES then have no more SLACK to it "
            + "than more (0 to 99, whatever is asked), else height what (0 to 7) then (10 more than it is);");
        Bench b = new Bench();
        b.edge(10, "-1,2,0*5,1");
        b.edge(9, "0*6,1,2");
        b.x.person(0, 0, 0);
        b.x.person(9, 0, 0);
        int[] heights = {-1, 0, 0, 0, 0, 0, -2, 1};
        for (int h = 0; h < 8; h++) due("height " + h, b.x.sanding(11, 10, 0, -1, 0, h, 0), 10 + heights[h]);
        due("work", b.x.sanding(11, 10, 0, -1, 0, 10, 0), 4);
        int[][] others = {{0, 0}, {3, 0}, {4, 1}, {5, 2}, {99, 2}};
        for (int[] o : others) due("no more than " + o[0], b.x.sanding(11, 10, 0, -1, 0, 11, o[0]), o[1]);
        due("and b", b.x.sanding(11, 10, 2, 9, 3, 10, 0), 2);
        for (int more : new int[] {0, 99}) {
            for (int what : new int[] {0, 7, 10}) due("more is free", b.x.sanding(11, 10, 0, -1, 0, what, more) > 0, true);
        }
        for (int more : new int[] {-1, 100, LEAST, MOST}) {
            for (int what : new int[] {0, 7, 10, 11}) due("more " + more + ", whatever is asked", b.x.sanding(11, 10, 0, -1, 0, what, more), -1);
        }
        int[] bys = {LEAST, -1, 0, 60, 61, 99, MOST};
        for (int byB : bys) due("byB is not looked at without b", b.x.sanding(11, 10, 0, -1, byB, 10, 0), 4);
        due("it is not changed", b.x.piece(11, 0), 0);
    }

    private static void sandingRefused() {
        says("-2: it can't be so;");
        Bench b = new Bench();
        b.edge(1, "0*7,5");
        b.edge(2, "0*7,-5");
        for (int what : new int[] {0, 7, 10, 11}) {
            due("9 is less than 10", b.x.sanding(0, 1, 4, 2, 5, what, 0), -2);
            due("9 is less than 10", b.x.sanding(0, 1, 0, 2, 9, what, 0), -2);
            due("10", b.x.sanding(0, 1, 5, 2, 5, what, 0) >= 0, true);
            due("10", b.x.sanding(0, 1, 10, 2, 0, what, 0) >= 0, true);
        }
        b.edge(3, "9*8");
        b.edge(4, "-9*8");
        due("60 and 60 are 144 never", b.x.sanding(0, 3, 60, 4, 60, 10, 0), -2);
        says("NONE: no such ones (byB is not looked at without b), one twice, too much together.");
        String before = b.state();
        for (int k : NOBODIES) {
            due("no k", b.x.sanding(k, 1, 0, -1, 0, 10, 0), -1);
            due("no a", b.x.sanding(0, k, 0, -1, 0, 10, 0), -1);
            if (k != -1) due("no b", b.x.sanding(0, 1, 0, k, 0, 10, 0), -1);
        }
        due("-1 is none", b.x.sanding(0, 1, 0, -1, 0, 10, 0), 5);
        due("-2 is no b", b.x.sanding(0, 1, 0, -2, 0, 10, 0), -1);
        int[][] twice = {{0, 0, -1}, {0, 1, 1}, {0, 1, 0}, {0, 0, 0}, {0, 0, 1}};
        for (int[] t : twice) due("one twice", b.x.sanding(t[0], t[1], 0, t[2], 0, 10, 0), -1);
        for (int what : new int[] {-1, 8, 9, 12, 13, LEAST, MOST}) due("no such what", b.x.sanding(0, 1, 0, -1, 0, what, 0), -1);
        for (int by : new int[] {61, 62, 99, MOST, -1, LEAST}) {
            due("too much, none below 0: a", b.x.sanding(0, 1, by, -1, 0, 10, 0), -1);
            due("too much, none below 0: b", b.x.sanding(0, 1, 60, 2, by, 10, 0), -1);
        }
        due("60 and 60", b.x.sanding(0, 1, 60, 2, 60, 10, 0), 0);
        b.x.wear(0, 30);
        due("together 60", b.x.sanding(0, 1, 30, 2, 30, 10, 0), 0);
        due("together 61: a", b.x.sanding(0, 1, 31, 2, 30, 10, 0), -1);
        due("together 61: b", b.x.sanding(0, 1, 30, 2, 31, 10, 0), -1);
        due("together 61, no b", b.x.sanding(0, 1, 30, -1, 31, 10, 0), 0);
        b.x.wear(0, 0);
        b.unchanged("sanding", before);
    }

    private static void steaming() {
        section("Promise 21");
        says("STEAMING PIECE k for PIECE a by so much (0 to 99), what 0 the doings, 1 the turns, 2 the raising (10 more than it is);");
        Bench b = new Bench();
        b.edge(10, "1,2,3,4,5,6,7,8");
        b.edge(11, "-4,-3,-2,-1,-8,-7,-6,-5");
        int[] want = {4, 4, 10};
        for (int what = 0; what < 3; what++) due("turns", b.x.steaming(10, 11, 0, what), want[what]);
        int[] free = {0, 0, 10};
        for (int what = 0; what < 3; what++) due("99", b.x.steaming(10, 11, 99, what), free[what]);
        b.edge(9, "-2*8");
        int[] down = {2, 0, 8};
        b.edge(8, "4*8");
        for (int what = 0; what < 3; what++) due("raising", b.x.steaming(8, 9, 0, what), down[what]);
        due("it is not changed", b.x.piece(8, 0), 4);
        for (int by : new int[] {-1, 100, LEAST, MOST}) due("by " + by, b.x.steaming(8, 9, by, 0), -1);
        says("-2: it can't be so;");
        b.edge(7, "9,-9*7");
        for (int what = 0; what < 3; what++) due("it can't be so", b.x.steaming(7, 9, 0, what), -2);
        says("NONE: no such ones, one twice.");
        String before = b.state();
        for (int k : NOBODIES) {
            due("no k", b.x.steaming(k, 1, 99, 0), -1);
            due("no a", b.x.steaming(1, k, 99, 0), -1);
        }
        for (int k = 0; k < 12; k++) due("one twice", b.x.steaming(k, k, 99, 0), -1);
        for (int what : new int[] {-1, 3, 10, LEAST, MOST}) due("no such what", b.x.steaming(0, 1, 99, what), -1);
        b.unchanged("steaming", before);
    }

    private static void worn() {
        section("Promise 22");
        says("WORN, by PEOPLE of both SIDES that live: tries (0: they FIT); -2: never;");
        Bench b = Bench.people(2, 2);
        due("they FIT", b.x.worn(0, 2), 0);
        b.front(0, 1);
        due("never", b.x.worn(0, 2), -2);
        due("either way", b.x.worn(2, 0), -2);
        b.law("w1(1=1)");
        due("one try", b.x.worn(0, 2), 1);
        b.front(0, 2);
        due("one try of both", b.x.worn(0, 2), 1);
        b.front(0, 3);
        due("two tries", b.x.worn(0, 2), 2);
        b.law("f1(1=1);w1(1=1)");
        due("one try", b.x.worn(2, 0), 1);
        b.x.weds(0, 2);
        due("WED ones, too", b.x.worn(0, 2), 1);
        says("NONE: no such ones, of one SIDE.");
        for (int i : NOBODIES) due("nobody", Math.max(b.x.worn(i, 0), b.x.worn(0, i)), -1);
        int[][] wrong = {{0, 1}, {1, 0}, {2, 3}, {3, 2}, {0, 0}, {2, 2}, {0, 4}, {4, 2}};
        for (int[] w : wrong) due("worn(" + w[0] + ", " + w[1] + ")", b.x.worn(w[0], w[1]), -1);
        b.x.dies(3);
        due("a dead one", b.x.worn(0, 3), -1);
        due("a dead one", b.x.worn(3, 0), -1);
    }

    private static void cutter() {
        section("Promise 23");
        says("A CUTTER's RULE by the first 2 n bytes of the tape (twos of PIECES; n 1 to 5; empty then), what 0 how many, "
            + "1 the first (14 times the shift, 7 times the sign, and more and 3; -2: none), 10 + k which PIECE it makes of PIECE k (-2: none is so, no rule);");
        Bench b = new Bench();
        b.edge(11, "1,2,3,4,5,6,7,8");
        b.edge(10, "-8,-1,-2,-3,-4,-5,-6,-7");
        int[] whats = {0, 1, 21, 20, 10, 19};
        int[] want = {1, 14 + 7 + 3, 10, -2, 0, 0};
        for (int t = 0; t < 6; t++) due("what " + whats[t], b.bytes(11, 10).x.cutter(1, whats[t]), want[t]);
        due("empty then", b.x.count(5), 0);
        int[] none = {0, -2, -2, -2, -2, -2};
        for (int t = 0; t < 6; t++) due("no rule, what " + whats[t], b.bytes(11, 0).x.cutter(1, whats[t]), none[t]);
        due("the first 2 of 40 bytes", b.bytes(11, 10, 99, 99).feed("").x.cutter(1, 0), 1);
        due("empty then", b.x.count(5), 0);
        b.edge(9, "-9*8");
        b.edge(8, "9*8");
        due("shift 0, the other sign", b.bytes(8, 9).x.cutter(1, 1), 7 + 3);
        b.edge(8, "-6*8");
        due("more 3", b.bytes(9, 8).x.cutter(1, 1), 6);
        due("more -3", b.bytes(8, 9).x.cutter(1, 1), 0);
        says("-3: no such PIECES, one twice in a two;");
        int[][] wrong = {{12, 0}, {0, 12}, {255, 0}, {0, 255}, {0, 0}, {11, 11}};
        for (int[] w : wrong) {
            for (int what : new int[] {0, 1, 10, 21}) {
                due("-3", b.bytes(w).x.cutter(1, what), -3);
                due("empty then", b.x.count(5), 0);
            }
            due("the second two", b.bytes(0, 1, w[0], w[1]).x.cutter(2, 0), -3);
            due("behind them", b.bytes(0, 1, w[0], w[1]).x.cutter(1, 0) >= 0, true);
        }
        due("11 and 10", b.bytes(11, 10, 10, 11).x.cutter(2, 0) >= 0, true);
        says("NONE: no such ones, it has not so many (the tape stays).");
        due("an empty tape", b.x.cutter(1, 0), -1);
        b.bytes(11, 10);
        for (int n : new int[] {0, -1, 6, 7, LEAST, MOST, 1 << 30}) due("n " + n, b.x.cutter(n, 0), -1);
        for (int what : new int[] {-1, 2, 3, 9, 22, 23, LEAST, MOST}) due("what " + what, b.x.cutter(1, what), -1);
        due("the tape stays", b.x.count(5), 20);
        due("the tape is as it was", b.x.cutter(1, 0), 1);
    }

    private static void copies() {
        section("Promise 24");
        says("COPIES among told PEOPLE's PIECES, what 0 how many twos, 1, 2 the first two (lower, higher), 3 the copy of these (-2: none);");
        Bench b = new Bench();
        int[] none = {0, -2, -2, -2};
        for (int what = 0; what < 4; what++) due("nobody told", b.x.copies(what), none[what]);
        b.x.person(11, 0, 0);
        for (int what = 0; what < 4; what++) due("one told", b.x.copies(what), none[what]);
        b.x.person(2, 0, 0);
        int[] two = {1, 2, 11, 11};
        for (int what = 0; what < 4; what++) due("two told", b.x.copies(what), two[what]);
        b.x.wear(11, 1);
        due("the copy", b.x.copies(3), 2);
        b.edge(2, "0*7,1");
        for (int what = 0; what < 4; what++) due("one height", b.x.copies(what), none[what]);
        b.edge(2, "0*8");
        b.x.dies(2);
        b.x.dies(11);
        int[] dead = {1, 2, 11, 2};
        for (int what = 0; what < 4; what++) due("told and dead", b.x.copies(what), dead[what]);
        says("NONE: no such what.");
        for (int what : new int[] {-1, 4, 5, LEAST, MOST}) due("what " + what, b.x.copies(what), -1);
    }

    private static void mate() {
        section("Promise 25");
        says("A MATE to PIECE k, height h (10 more than it is);");
        Bench b = new Bench();
        for (int k = 0; k < 12; k++) {
            b.edge(k, "-9,9,0,1,-1,5,-5,3");
            b.x.wear(k, 99);
            int[] mate = {-3, 5, -5, 1, -1, 0, -9, 9};
            for (int h = 0; h < 8; h++) due("mate", b.x.mate(k, h), 10 + mate[h]);
        }
        says("NONE: no such ones.");
        for (int k : NOBODIES) due("no PIECE", b.x.mate(k, 0), -1);
        for (int h : new int[] {-1, 8, 9, LEAST, MOST}) due("no height", b.x.mate(0, h), -1);
    }

    private static void check() {
        section("Promise 29");
        says("CHECK of a PIECE by the first n bytes of the tape (0 to 8; empty then): NONE: right; else the place of the first one that is not so;");
        Bench b = new Bench();
        b.edge(11, "-9,-8,-7,-6,6,7,8,9");
        for (int n = 0; n <= 8; n++) {
            due("right", b.bytes(0, 1, 2, 3, 15, 16, 17, 18, 99).x.check(11, n), -1);
            due("empty then", b.x.count(5), 0);
            due("wrong from 3 on", b.bytes(0, 1, 2, 4, 4, 4, 4, 4).x.check(11, n), n > 3 ? 3 : -1);
            due("empty then", b.x.count(5), 0);
            due("wrong from 0 on", b.bytes(1).x.check(11, n), n > 0 ? 0 : -1);
            due("the last one", b.bytes(0, 1, 2, 3, 15, 16, 17, 19).x.check(11, n), n > 7 ? 7 : -1);
        }
        due("0 of an empty tape", b.x.check(11, 0), -1);
        due("a byte of 255", b.bytes(255).x.check(11, 1), 0);
        says("-2: no such ones, it has not so many (the tape stays).");
        due("an empty tape", b.x.check(11, 1), -2);
        b.bytes(0, 1, 2, 3, 15, 16, 17, 18);
        for (int k : NOBODIES) due("no PIECE", b.x.check(k, 0), -2);
        for (int n : new int[] {-1, 9, 10, 20, 21, LEAST, MOST}) due("n " + n, b.x.check(11, n), -2);
        due("the tape stays", b.x.count(5), 20);
        due("the tape is as it was", b.x.check(11, 8), -1);
    }

    private static void count() {
        section("Promise 30");
        says("0 THE DAY, 1 told PEOPLE (bits), 2 those that live (bits), 3 twos that are WED, 4 CLAUSES, 5 bytes of the tape, 6 X; "
            + "10 + t who is in TOWN t (bits of those that live).");
        Bench b = new Bench();
        for (int i = 0; i < 12; i++) b.x.person(i, i & 1, i % 6);
        for (int t = 0; t < 6; t++) due("all live", b.x.count(10 + t), 65 << t);
        b.x.dies(11);
        b.x.dies(0);
        b.x.weds(2, 5);
        b.law("f1(1=1);b99(1=1)");
        b.feed("").feed("");
        b.x.seed(5);
        int[] want = {0, 4095, 2046, 1, 2, 40, 5};
        for (int what = 0; what < 7; what++) due("count(" + what + ")", b.x.count(what), want[what]);
        int[] towns = {64, 130, 260, 520, 1040, 32};
        for (int t = 0; t < 6; t++) due("TOWN " + t, b.x.count(10 + t), towns[t]);
        b.x.check(0, 0);
        due("a journey", b.journey(4, "5"), 1);
        b.x.days(1);
        due("THE DAY", b.x.count(0), 1);
        due("X, one two", b.x.count(6), (25173 * 5 + 13849) % 65536);
        due("TOWN 4", b.x.count(14), 1040 - 16);
        due("TOWN 5", b.x.count(15), 32 + 16);
        b.x.dies(2);
        due("twos", b.x.count(3), 0);
        says("NONE for others.");
        for (int what : new int[] {-1, 7, 8, 9, 16, 17, LEAST, MOST, LEAST + 10}) due("count(" + what + ")", b.x.count(what), -1);
    }
}
