/** Promises 1 to 10 and 26 to 28, what is told, sentence by sentence. */
final class TellingPromises extends Sentences {
    static void all() {
        newObject();
        person();
        wear();
        dies();
        weds();
        feed();
        law();
        lawTape();
        edge();
        journey();
        days();
        seed();
        keep();
        undo();
    }

    private static void newObject() {
        section("Promise 1");
        says("No PEOPLE, flat PIECES, no LAW; THE SEED 1.");
        PuzzleWed x = new PuzzleWed();
        int[] counts = {0, 0, 0, 0, 0, 0, 1};
        for (int what = 0; what < 7; what++) due("count(" + what + ")", x.count(what), counts[what]);
        for (int t = 0; t < 6; t++) due("who is in TOWN " + t, x.count(10 + t), 0);
        for (int i = 0; i < 12; i++) {
            for (int what = 0; what < 9; what++) due("personIs", x.personIs(i, what), -1);
            for (int h = 0; h < 9; h++) due("flat, not worn", x.piece(i, h), 0);
            due("held by nobody", x.piece(i, 9), -2);
            for (int h = 0; h < 8; h++) due("mate", x.mate(i, h), 10);
        }
        int[] none = {x.locks(0), x.most(20), x.most(21), x.stable(20), x.unrest(0), x.copies(0), x.tried(60, 0), x.tried(60, 1), x.tried(60, 2), x.tried(60, 3)};
        for (int answer : none) due("nobody", answer, 0);
        due("nothing is KEPT", x.undo(), false);
        due("no bytes", x.check(0, 1), -2);
    }

    private static void person() {
        section("Promise 2");
        says("A PERSON (told once; it lives, holds its PIECE): true;");
        for (int i = 0; i < 12; i++) {
            Bench b = new Bench();
            b.front(i, 3);
            b.x.wear(i, 4);
            due("true", b.x.person(i, i % 2, i % 6), true);
            int[] is = {i % 2, i % 6, -2, 0, 1, 1 << i, 0, 0, 0};
            for (int what = 0; what < 9; what++) due("personIs " + what, b.x.personIs(i, what), is[what]);
            due("holds", b.x.piece(i, 9), i);
            due("its PIECE is as it was", b.x.piece(i, 0), 3);
            due("its PIECE is as it was", b.x.piece(i, 8), 4);
            due("lives", b.x.count(2), 1 << i);
        }
        says("false: no such ones, it is told.");
        Bench b = new Bench();
        b.x.person(5, 1, 2);
        String before = b.state();
        for (int i : NOBODIES) due("nobody " + i, b.x.person(i, 0, 0), false);
        for (int side : new int[] {-1, 2, LEAST, MOST}) due("no SIDE", b.x.person(0, side, 0), false);
        for (int town : new int[] {-1, 6, LEAST, MOST}) due("no TOWN", b.x.person(0, 0, town), false);
        due("told", b.x.person(5, 1, 2), false);
        due("told", b.x.person(5, 0, 0), false);
        b.unchanged("refused", before);
        b.x.dies(5);
        before = b.state();
        due("told and dead", b.x.person(5, 1, 2), false);
        b.unchanged("refused", before);
    }

    private static void wear() {
        section("Promise 3");
        says("WEAR of a PIECE: true; false: no such ones.");
        Bench b = new Bench();
        for (int k = 0; k < 12; k++) {
            for (int n : new int[] {0, 1, 98, 99}) {
                due("wear", b.x.wear(k, n), true);
                due("WEAR", b.x.piece(k, 8), n);
            }
            due("in place of the one before", b.x.wear(k, k), true);
        }
        String before = b.state();
        for (int k : NOBODIES) due("no PIECE " + k, b.x.wear(k, 5), false);
        for (int n : new int[] {-1, 100, LEAST, MOST}) due("no WEAR " + n, b.x.wear(5, n), false);
        b.unchanged("refused", before);
        for (int k = 0; k < 12; k++) due("WEAR", b.x.piece(k, 8), k);
    }

    private static void dies() {
        section("Promise 4");
        says("A PERSON that lives dies: true; false: no such one.");
        Bench b = Bench.people(11, 0);
        for (int i : NOBODIES) due("nobody " + i, b.x.dies(i), false);
        due("not told", b.x.dies(11), false);
        for (int i = 0; i < 11; i++) {
            due("dies", b.x.dies(i), true);
            due("dies once", b.x.dies(i), false);
            due("told still", b.x.personIs(i, 4), 0);
            due("those that live", b.x.count(2), 2047 - ((2 << i) - 1));
        }
    }

    private static void weds() {
        section("Promise 5");
        says("Two that live, i of SIDE 0 and j of SIDE 1, are WED as they are told (whether they FIT or not; CREAKS 0): true;");
        Bench b = Bench.people(2, 2);
        b.front(0, 9);
        due("they don't FIT", b.x.slack(0, 2, 1), 0);
        due("weds(0, 2)", b.x.weds(0, 2), true);
        due("weds(1, 3)", b.x.weds(1, 3), true);
        int[] to = {2, 3, 0, 1};
        for (int i = 0; i < 4; i++) due("WED", b.x.personIs(i, 2), to[i]);
        b.law("c10(1=1);b1(1=1)");
        b.x.days(2);
        for (int i = 0; i < 4; i++) due("parted with CREAKS", b.x.personIs(i, 3), 2);
        due("again", b.x.weds(0, 2), true);
        due("CREAKS 0", b.x.personIs(0, 3), 0);
        due("CREAKS 0", b.x.personIs(2, 3), 0);
        due("of others", b.x.personIs(1, 3), 2);
        Bench town = new Bench();
        town.x.person(0, 0, 0);
        town.x.person(1, 1, 5);
        due("of two TOWNS", town.x.weds(0, 1), true);
        says("false: no such ones, one is WED.");
        Bench c = Bench.people(3, 3);
        c.x.weds(0, 3);
        c.x.dies(2);
        c.x.dies(5);
        String before = c.state();
        int[][] wrong = {{4, 1}, {1, 1}, {4, 4}, {0, 1}, {3, 4}, {1, 6}, {6, 4}, {1, 5}, {2, 4}, {2, 5}, {0, 3}, {0, 4}, {1, 3}, {3, 0}};
        for (int[] w : wrong) due("weds(" + w[0] + ", " + w[1] + ")", c.x.weds(w[0], w[1]), false);
        for (int i : NOBODIES) due("nobody", c.x.weds(i, 4) || c.x.weds(1, i) || c.x.weds(i, i), false);
        c.unchanged("refused", before);
        due("weds(1, 4)", c.x.weds(1, 4), true);
    }

    private static void feed() {
        section("Promise 6");
        says("Twenty bytes come behind the tape, the highest of each int first: how many it has;");
        Bench b = new Bench();
        due("20", b.x.feed(0x2D392C39, 0x2C2D382C, 0x382C2D37, 0x2C372C2D, 0x362C3678), 20);
        due("the highest first", b.x.edge(0, 19), 60);
        int[] heights = {-9, 9, -8, 8, -7, 7, -6, 6};
        for (int h = 0; h < 8; h++) due("height", b.x.piece(0, h), heights[h]);
        due("20", b.x.feed(0, 0, 0, 0, 0), 20);
        due("40", b.x.feed(0, 0, 0, 0, 0), 40);
        Bench two = new Bench();
        two.feed("f1(1=1);f1(1=1);f1(1=1)");
        due("behind the tape", two.x.law(23), 3);
        Bench high = new Bench();
        high.x.feed(0xFFFFFFFF, 0x80808080, LEAST, MOST, 0);
        due("bytes above 127", high.x.search(2, 20), -2);
        says("NONE if that would be more than 260.");
        for (int f = 1; f <= 13; f++) due("feed " + f, b.x.feed(f, f, f, f, f), f <= 11 ? 40 + 20 * f : -1);
        due("the tape stays", b.x.count(5), 260);
        Bench full = new Bench();
        for (int f = 1; f <= 13; f++) due("feed " + f, full.x.feed(0x66316631, 0, 0, 0, 0), 20 * f);
        due("a 14th", full.x.feed(0, 0, 0, 0, 0), -1);
        due("260", full.x.count(5), 260);
        due("the tape is as it was", full.x.law(4), -1002);
        due("emptied", full.x.feed(0, 0, 0, 0, 0), 20);
    }

    private static void law() {
        section("Promise 7");
        says("THE LAW by the first n bytes of the tape (1 to 240; empty then), in place of the one before: how many CLAUSES;");
        Bench b = Bench.people(1, 1);
        b.feed("l3(1=1);l4(1=1)");
        due("the first 7", b.x.law(7), 1);
        due("empty then", b.x.count(5), 0);
        due("l", b.x.slack(0, 1, 2), 3);
        due("in place of the one before", b.law("f0(1=1)"), 1);
        due("no l", b.x.slack(0, 1, 2), 0);
        for (int n = 1; n <= 16; n++) {
            due(n + " CLAUSES", b.law(many("b1(d=0)", ";", n)), n);
            due("CLAUSES", b.x.count(4), n);
        }
        b.feed("f").feed("").feed("");
        due("1 byte", b.x.law(1), -1001);
        due("empty then", b.x.count(5), 0);
        String longest = "l12(" + many("1=1", "&", 58) + "&12=12)";
        b.feed(longest);
        due("239", longest.length(), 242);
        due("240 bytes of more", b.x.law(240), -1240);
        due("empty then", b.x.count(5), 0);
        says("a FAULT: -1000 times its number, less its place (the one before stays);");
        b.law("l8(1=1);f1(1=1)");
        String[] faults = {"x", "l123456(1=1)", many("f1(1=1)", ";", 17), "l1((((((("};
        int[] due = {-1000, -2006, -4128, -5008};
        for (int t = 0; t < faults.length; t++) {
            due("a FAULT", b.law(faults[t]), due[t]);
            due("the one before", b.x.count(4), 2);
            due("the one before", b.x.slack(0, 1, 2), 8);
            due("empty then", b.x.count(5), 0);
        }
        due("place 239", b.law(many("f1(1=1)", ";", 1) + ";l" + many("1", "+", 115) + "+"), -1239);
    }

    private static void lawTape() {
        says("NONE: no such n, it has not so many (the tape stays).");
        Bench b = Bench.people(1, 1);
        due("an empty tape", b.x.law(1), -1);
        b.law("l8(1=1)");
        b.feed("l9(1=1)");
        for (int n : new int[] {0, -1, 21, 22, 240, 241, LEAST, MOST}) due("n " + n, b.x.law(n), -1);
        due("the tape stays", b.x.count(5), 20);
        due("THE LAW stays", b.x.slack(0, 1, 2), 8);
        due("the tape is as it was", b.x.law(7), 1);
        due("THE LAW", b.x.slack(0, 1, 2), 9);
        b.feed("l" + many("1", "+", 130));
        due("260 bytes, 241", b.x.law(241), -1);
        due("260 bytes, 260", b.x.law(260), -1);
        due("260 bytes, 261", b.x.law(261), -1);
        due("the tape stays", b.x.count(5), 260);
        due("260 bytes, 240", b.x.law(240), -1240);
    }

    private static void edge() {
        section("Promise 8");
        says("AN EDGE of PIECE k by the first n bytes of the tape (1 to 40; empty then), in place of the one before (WEAR stays): the sum of its amounts;");
        Bench b = new Bench();
        for (int k = 0; k < 12; k++) {
            b.x.wear(k, 50 + k);
            b.feed("1*8,1");
            due("the first 3", b.x.edge(k, 3), 8);
            due("empty then", b.x.count(5), 0);
            due("in place of the one before", b.edge(k, "-9*4,9*3,0"), 63);
            int[] heights = {-9, -9, -9, -9, 9, 9, 9, 0, 50 + k};
            for (int h = 0; h < 9; h++) due("heights, WEAR stays", b.x.piece(k, h), heights[h]);
        }
        due("0 at least", b.edge(0, "0*8"), 0);
        due("72 at most", b.edge(0, "-9*8"), 72);
        due("amounts", b.edge(0, "1,-1,2,-2,3,-3,4,-4"), 20);
        says("a FAULT;");
        Bench f = new Bench();
        f.edge(3, "5*8");
        edges(f, 3, "x", -1000, "1*7", -1003, "1*8,1", -6004);
        for (int h = 0; h < 8; h++) due("the one before stays", f.x.piece(3, h), 5);
        due("empty then", f.x.count(5), 0);
        says("NONE: no such ones, it has not so many (the tape stays).");
        due("an empty tape", f.x.edge(3, 1), -1);
        f.feed("1*8").feed("").feed("");
        for (int k : NOBODIES) due("no PIECE", f.x.edge(k, 3), -1);
        for (int n : new int[] {0, -1, 41, 60, 61, LEAST, MOST}) due("n " + n, f.x.edge(3, n), -1);
        due("the tape stays", f.x.count(5), 60);
        due("40 of 60", f.x.edge(3, 40), -1003);
        f.feed("1*8");
        due("21 of 20", f.x.edge(3, 21), -1);
        due("the tape stays", f.x.count(5), 20);
        for (int h = 0; h < 8; h++) due("the one before stays", f.x.piece(3, h), 5);
        due("3 of 20", f.x.edge(3, 3), 8);
        Bench all = new Bench();
        all.feed("0,0,0,0,0,0,0,-1,   ");
        due("20 of 20 are read", all.x.edge(0, 20), -1017);
    }

    private static void journey() {
        section("Promise 9");
        says("A JOURNEY of a told PERSON by the first n bytes of the tape (1 to 40; empty then), in place of what is left of the one before: how many DAYS;");
        Bench b = Bench.people(12, 0);
        for (int i = 0; i < 12; i++) {
            b.feed("1*9,2");
            due("the first 3", b.x.journey(i, 3), 9);
            due("empty then", b.x.count(5), 0);
            due("DAYS left", b.x.personIs(i, 7), 9);
        }
        b.x.days(4);
        due("DAYS left", b.x.personIs(7, 7), 5);
        due("in place of what is left", b.journey(7, "3,4"), 2);
        due("DAYS left", b.x.personIs(7, 7), 2);
        due("of others", b.x.personIs(6, 7), 5);
        b.x.days(1);
        due("the new one from its first DAY on", b.x.personIs(7, 1), 3);
        b.feed("5");
        due("1 byte", b.x.journey(7, 1), 1);
        due("39 bytes", b.journey(7, many("1*9", ",", 10)), 90);
        b.x.dies(7);
        due("of a told one that is dead", b.journey(7, "1"), 1);
        says("a FAULT;");
        Bench f = Bench.people(1, 1);
        f.journey(0, "5*3");
        journeys(f, 0, "x", -1000, "6", -3000, many("1", ",", 17), -4032, "1,", -1002);
        due("the one before stays", f.x.personIs(0, 7), 3);
        due("empty then", f.x.count(5), 0);
        f.x.days(1);
        due("the one before stays", f.x.personIs(0, 1), 5);
        says("NONE: no such ones, it has not so many (the tape stays).");
        due("an empty tape", f.x.journey(0, 1), -1);
        f.feed("1,2").feed("").feed("");
        for (int i : NOBODIES) due("nobody", f.x.journey(i, 3), -1);
        due("not told", f.x.journey(2, 3), -1);
        for (int n : new int[] {0, -1, 41, 60, 61, LEAST, MOST}) due("n " + n, f.x.journey(0, n), -1);
        due("the tape stays", f.x.count(5), 60);
        due("40 of 60", f.x.journey(0, 40), -1003);
        f.feed("1,2");
        due("21 of 20", f.x.journey(0, 21), -1);
        due("the tape stays", f.x.count(5), 20);
        due("the one before stays", f.x.personIs(0, 7), 2);
        due("3 of 20", f.x.journey(0, 3), 2);
    }

    private static void days() {
        section("Promise 10");
        says("DAYS (1 to 60) go by (as many as can): how many twos WED;");
        Bench b = Bench.people(2, 2);
        due("1", b.x.days(1), 2);
        due("THE DAY", b.x.count(0), 1);
        due("none more", b.x.days(60), 0);
        due("THE DAY", b.x.count(0), 61);
        Bench c = Bench.people(1, 4);
        c.law("f0(1=1);c10(1=1);b0(1=1)");
        due("WED to one after the other", c.x.days(3), 3);
        due("of these DAYS alone", c.x.days(60), 1);
        Bench told = Bench.people(1, 1);
        told.x.weds(0, 1);
        due("as they were told is none", told.x.days(5), 0);
        Bench last = new Bench();
        for (int d = 0; d < 166; d++) last.x.days(60);
        last.x.days(37);
        due("THE DAY", last.x.count(0), 9997);
        last.x.person(0, 0, 0);
        last.x.person(1, 1, 1);
        last.journey(1, "1,0");
        due("as many as can", last.x.days(60), 1);
        due("THE DAY", last.x.count(0), 9999);
        last.x.person(2, 0, 0);
        last.x.person(3, 1, 0);
        due("none goes by", last.x.days(1), 0);
        says("NONE: no such n.");
        Bench n = Bench.people(1, 1);
        String before = n.state();
        for (int days : new int[] {0, -1, 61, 62, LEAST, MOST}) due("days(" + days + ")", n.x.days(days), -1);
        n.unchanged("refused", before);
        for (int days : new int[] {0, 61, -1}) due("on the last DAY, too", last.x.days(days), -1);
    }

    private static void seed() {
        section("Promise 26");
        says("THE SEED (0 to 65535; X, too): true; false: no such number.");
        Bench b = Bench.people(1, 1);
        for (int x : new int[] {0, 65535, 65534, 1, 32768}) {
            due("seed(" + x + ")", b.x.seed(x), true);
            due("X", b.x.count(6), x);
            for (int wrong : new int[] {-1, 65536, 65537, LEAST, MOST, -65536}) due("seed(" + wrong + ")", b.x.seed(wrong), false);
            due("X stays", b.x.count(6), x);
        }
        b.x.seed(65535);
        b.x.days(1);
        due("the next one", b.x.count(6), 54212);
        b.x.seed(0);
        b.x.days(1);
        due("the next one", b.x.count(6), 13849);
    }

    private static void keep() {
        section("Promise 27");
        says("KEPT: how many twos are WED.");
        Bench b = Bench.people(6, 6);
        for (int i = 0; i <= 6; i++) {
            due("so many", b.x.keep(), i);
            if (i < 6) b.x.weds(i, 11 - i);
        }
        b.x.dies(0);
        due("a widow is not", b.x.keep(), 5);
        due("nobody", new Bench().x.keep(), 0);
    }

    private static void undo() {
        section("Promise 28");
        says("UNDONE: true; false: none was KEPT.");
        Bench b = Bench.people(2, 2);
        due("none was KEPT", b.x.undo(), false);
        b.x.days(1);
        b.x.seed(7);
        String before = b.state();
        due("none was KEPT", b.x.undo(), false);
        b.unchanged("refused", before);
        b.x.keep();
        for (int t = 0; t < 3; t++) {
            b.x.dies(t);
            b.x.days(3);
            due("UNDONE", b.x.undo(), true);
            b.unchanged("UNDONE", before);
        }
        due("UNDONE at once again", b.x.undo(), true);
        b.unchanged("UNDONE", before);
    }
}
