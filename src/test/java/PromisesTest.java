/** Each promise with ordinary arguments, at the bounds that the document names, and refused. */
public final class PromisesTest {
    public static void main(String[] args) {
        p1();
        p2();
        p3();
        p4();
        p5();
        p6();
        p7();
        p8();
        p9();
        p10();
        p11();
        p12();
        p13();
        p14();
        p15();
        p16();
        p17();
        p18();
        p19();
        p20();
        p21();
        p22();
        p23();
        p24();
        p25();
        p26();
        p27();
        p28();
        p29();
        p30();
        lawReckons();
        lawShortCuts();
        lawFaults();
        Bench.end("PromisesTest");
    }

    private static void due(String call, int got, int want) {
        Bench.due(call, got, want);
    }

    private static void due(String call, boolean got, boolean want) {
        Bench.due(call, got, want);
    }

    private static final int LEAST = Integer.MIN_VALUE;
    private static final int MOST = Integer.MAX_VALUE;

    private static void p1() {
        Bench.part("1 a new object");
        Bench b = new Bench();
        for (int k = 0; k < 12; k++) {
            for (int h = 0; h < 9; h++) due("piece", b.x.piece(k, h), 0);
            due("holder", b.x.piece(k, 9), -2);
            due("personIs", b.x.personIs(k, 0), -1);
        }
        int[] counts = {0, 0, 0, 0, 0, 0, 1};
        for (int c = 0; c < 7; c++) due("count(" + c + ")", b.x.count(c), counts[c]);
        due("undo", b.x.undo(), false);
        due("NONE", PuzzleWed.NONE, -1);
        b.x.person(0, 0, 0);
        b.x.person(1, 1, 0);
        due("no law: f 0, slack 0", b.x.slack(0, 1, 1), 1);
        due("no law: l 0", b.x.slack(0, 1, 2), 0);
    }

    private static void p2() {
        Bench.part("2 person");
        Bench b = new Bench();
        int[][] wrong = {{-1, 0, 0}, {12, 0, 0}, {LEAST, 0, 0}, {MOST, 0, 0}, {0, -1, 0}, {0, 2, 0}, {0, 0, -1}, {0, 0, 6}};
        String before = b.state();
        for (int[] w : wrong) due("person", b.x.person(w[0], w[1], w[2]), false);
        b.unchanged("a refused person", before);
        due("person(0, 0, 0)", b.x.person(0, 0, 0), true);
        due("person(11, 1, 5)", b.x.person(11, 1, 5), true);
        due("SIDE", b.x.personIs(11, 0), 1);
        due("TOWN", b.x.personIs(11, 1), 5);
        due("lives", b.x.personIs(11, 4), 1);
        due("holds", b.x.personIs(11, 5), 1 << 11);
        due("holder", b.x.piece(11, 9), 11);
        before = b.state();
        due("told once", b.x.person(11, 0, 0), false);
        b.x.dies(0);
        due("told once, dead", b.x.person(0, 0, 0), false);
        due("SIDE still", b.x.personIs(11, 0), 1);
    }

    private static void p3() {
        Bench.part("3 wear");
        Bench b = Bench.people(1, 1);
        due("wear(0, 99)", b.x.wear(0, 99), true);
        due("WEAR", b.x.piece(0, 8), 99);
        due("wear(0, 0)", b.x.wear(0, 0), true);
        due("WEAR", b.x.piece(0, 8), 0);
        due("wear(11, 7) of nobody told", b.x.wear(11, 7), true);
        due("WEAR", b.x.piece(11, 8), 7);
        String before = b.state();
        int[][] wrong = {{-1, 0}, {12, 0}, {LEAST, 1}, {MOST, 1}, {0, -1}, {0, 100}};
        for (int[] w : wrong) due("wear", b.x.wear(w[0], w[1]), false);
        b.unchanged("a refused wear", before);
    }

    private static void p4() {
        Bench.part("4 dies");
        Bench b = Bench.people(2, 2);
        b.x.weds(0, 2);
        b.x.weds(1, 3);
        due("dies(2)", b.x.dies(2), true);
        due("widow's pieces", b.x.personIs(0, 5), 5);
        due("widow is not WED", b.x.personIs(0, 2), -2);
        due("the dead is not WED", b.x.personIs(2, 2), -2);
        due("the dead holds none", b.x.personIs(2, 5), 0);
        due("lives", b.x.personIs(2, 4), 0);
        due("holder", b.x.piece(2, 9), 0);
        due("weds again", b.x.weds(0, 3), false);
        due("dies(1)", b.x.dies(1), true);
        due("weds again", b.x.weds(0, 3), true);
        due("dies(0) leaves both", b.x.dies(0), true);
        due("all of them", b.x.personIs(3, 5), 15);
        due("dies(3), not WED", b.x.dies(3), true);
        for (int k = 0; k < 4; k++) due("nobody holds", b.x.piece(k, 9), -2);
        String before = b.state();
        int[] wrong = {3, 4, 11, 12, -1, LEAST, MOST};
        for (int i : wrong) due("dies(" + i + ")", b.x.dies(i), false);
        b.unchanged("a refused dies", before);
    }

    private static void p5() {
        Bench.part("5 weds");
        Bench b = Bench.people(2, 2);
        b.front(0, 9);
        String before = b.state();
        int[][] wrong = {{2, 0}, {0, 1}, {2, 3}, {0, 0}, {-1, 2}, {0, 12}, {0, 5}, {12, 2}, {LEAST, MOST}};
        for (int[] w : wrong) due("weds", b.x.weds(w[0], w[1]), false);
        b.unchanged("a refused weds", before);
        due("they do not fit", b.x.slack(0, 2, 1), 0);
        due("weds(0, 2)", b.x.weds(0, 2), true);
        due("WED to", b.x.personIs(0, 2), 2);
        due("WED to", b.x.personIs(2, 2), 0);
        before = b.state();
        due("one is WED", b.x.weds(0, 3), false);
        due("one is WED", b.x.weds(1, 2), false);
        b.unchanged("a refused weds", before);
        b.law("c10(1=1);b5(1=1)");
        b.front(1, 5);
        b.x.days(3);
        due("CREAKS", b.x.personIs(0, 3), 3);
        b.x.dies(2);
        due("weds(0, 3)", b.x.weds(0, 3), true);
        due("CREAKS 0", b.x.personIs(0, 3), 0);
        b.x.dies(1);
        due("the dead", b.x.weds(1, 3), false);
    }

    private static void p6() {
        Bench.part("6 feed");
        Bench b = new Bench();
        due("feed", b.x.feed(0x312A3800, -1, 0, 0, 0), 20);
        due("highest first", b.x.edge(0, 3), 8);
        for (int f = 1; f <= 13; f++) due("feed " + f, b.x.feed(-1, LEAST, MOST, 0, 1), 20 * f);
        due("a 14th", b.x.feed(0, 0, 0, 0, 0), -1);
        due("bytes", b.x.count(5), 260);
        due("bytes of -1", b.x.check(0, 1), 0);
        b.front(0, 0);
        b.x.feed(0x09090909, 0x09090909, 0x0A000000, 0, 0);
        due("bytes", b.x.check(0, 8), -1);
        b.x.feed(0x09090909, 0x0909090A, 0, 0, 0);
        due("bytes", b.x.check(0, 8), 7);
    }

    private static void p7() {
        Bench.part("7 law");
        Bench b = Bench.people(1, 1);
        due("one", b.law("f3(1=1)"), 1);
        due("CLAUSES", b.x.count(4), 1);
        b.front(0, 3);
        due("f 3", b.x.slack(0, 1, 1), 1);
        due("in its place", b.law("l5(1=1);f2(1=1)"), 2);
        due("f 2", b.x.slack(0, 1, 1), 0);
        due("a fault", b.law("f9(1=1);f9(1=1"), -1014);
        due("bytes", b.x.count(5), 0);
        due("the one before", b.x.count(4), 2);
        due("the one before", b.x.slack(0, 1, 2), 5);
        b.feed("f3(1=1)");
        for (int n : new int[] {0, -1, 241, LEAST, MOST, 21}) due("law(" + n + ")", b.x.law(n), -1);
        due("the tape stays", b.x.count(5), 20);
        due("20 bytes", b.x.law(20), -1007);
        StringBuilder s = new StringBuilder("f1(1=1");
        while (s.length() < 239) s.append("&1=1".charAt((s.length() - 6) % 4));
        due("239 bytes", b.law(s.substring(0, 238) + ")"), 1);
        StringBuilder t = new StringBuilder("f1(1=1");
        while (t.length() < 235) t.append("|1=1");
        t.setLength(234);
        String full = t + "&11=1)";
        due("240 bytes", full.length(), 240);
        due("240 bytes", b.law(full), 1);
        b.feed(full + "x");
        due("241 bytes", b.x.law(241), -1);
        due("the tape stays", b.x.count(5), 260);
    }

    private static void p8() {
        Bench.part("8 edge");
        Bench b = Bench.people(1, 1);
        b.x.wear(11, 4);
        due("edge", b.edge(11, "-9,9,0*2,1,2,3,-4"), 28);
        int[] heights = {-9, 9, 0, 0, 1, 2, 3, -4};
        for (int h = 0; h < 8; h++) due("height " + h, b.x.piece(11, h), heights[h]);
        due("WEAR stays", b.x.piece(11, 8), 4);
        String before = b.state();
        String[] texts = {"1*8,", "1*8,1", "1*8,12", "1*8,1*", "1*8,1*9", "1*7,1*2", "1*7,-1*2,", "1*7,2x", "-0,1*7", "--1,1*7",
            "1*1,1*7", "1*9", "1,,1*6", ",1*7", "1;1*7", "1*4,1*4,1*4", "10,1*7", "1*23", "1* 8", "1*8 ", "1*2,1*2,1*2,1", "1*7,1*8",
            "a", "-", "1*", "1*8,-", "1*8,-0", "1*8,-1"};
        int[] faults = {-1004, -6004, -6004, -1006, -1006, -6004, -6004, -1005, -1001, -1001,
            -1002, -1002, -1002, -1000, -1001, -6008, -1001, -1003, -1002, -1003, -1013, -6004,
            -1000, -1001, -1002, -1005, -1005, -6004};
        for (int t = 0; t < texts.length; t++) due(texts[t], b.edge(11, texts[t]), faults[t]);
        b.unchanged("a fault", before);
        b.feed("1*8").feed("").feed("");
        before = b.state();
        int[][] wrong = {{-1, 3}, {12, 3}, {0, 0}, {0, 41}, {0, -1}, {LEAST, 3}, {0, MOST}};
        for (int[] w : wrong) due("edge", b.x.edge(w[0], w[1]), -1);
        b.unchanged("a refused edge", before);
        due("the tape stays", b.x.count(5), 60);
        due("edge", b.x.edge(0, 3), 8);
        due("empty then", b.x.count(5), 0);
        b.feed("1*8");
        due("more than the tape", b.x.edge(0, 21), -1);
        due("in its place", b.x.edge(0, 3), 8);
        b.feed("0*7,9").feed("").feed("");
        due("40 bytes are read", b.x.edge(0, 40), -1005);
    }

    private static void p9() {
        Bench.part("9 journey");
        Bench b = Bench.people(1, 1);
        b.front(0, 1);
        due("journey", b.journey(0, "5,0*9,3*2"), 12);
        due("left", b.x.personIs(0, 7), 12);
        b.x.days(2);
        due("left", b.x.personIs(0, 7), 10);
        due("TOWN", b.x.personIs(0, 1), 0);
        due("in place of what is left", b.journey(0, "2"), 1);
        due("left", b.x.personIs(0, 7), 1);
        b.x.days(1);
        due("TOWN", b.x.personIs(0, 1), 2);
        b.x.days(1);
        due("TOWN stays", b.x.personIs(0, 1), 2);
        due("16 stops", b.journey(1, "0,1,2,3,4,5,0,1,2,3,4,5,0,1,2,3"), 16);
        due("40 bytes", b.journey(1, "1*9,1*9,1*9,1*9,1*9,1*9,1*9,1*9,1*9,1*9,"), -1040);
        due("90 days", b.journey(1, "1*9,1*9,1*9,1*9,1*9,1*9,1*9,1*9,1*9,1*9"), 90);
        String sixteen = "0,1,2,3,4,5,0,1,2,3,4,5,0,1,2,3";
        String[] texts = {sixteen + ",4", sixteen + ",9", sixteen + ",x", sixteen + ",", sixteen + "*", "6", "0,9", "0*1", "0*", "0*10", "0 ",
            ",", "0,", "x", "00", "-1", "0*9*9", "0*6,7"};
        int[] faults = {-4032, -4032, -1032, -1032, -1032, -3000, -3002, -1002, -1002, -1002, -1001,
            -1000, -1002, -1000, -1001, -1000, -1003, -3004};
        String before = b.state();
        for (int t = 0; t < texts.length; t++) due(texts[t], b.journey(1, texts[t]), faults[t]);
        b.unchanged("a fault", before);
        b.feed("1").feed("").feed("");
        before = b.state();
        int[][] wrong = {{2, 1}, {-1, 1}, {12, 1}, {0, 0}, {0, 41}, {0, -1}, {0, MOST}};
        for (int[] w : wrong) due("journey", b.x.journey(w[0], w[1]), -1);
        b.unchanged("a refused journey", before);
        due("empty then", b.x.journey(0, 1), 1);
        due("empty then", b.x.count(5), 0);
        due("not so many", b.x.journey(0, 1), -1);
        b.x.dies(1);
        due("of a told one that is dead", b.journey(1, "1,2"), 2);
        b.x.days(1);
        due("it does not go", b.x.personIs(1, 7), 2);
    }

    private static void p10() {
        Bench.part("10 days");
        Bench b = Bench.people(2, 2);
        b.front(0, 5);
        b.law("f0(1=1);w2(1=1);c0(1=1);b9(1=1)");
        for (int n : new int[] {0, -1, 61, LEAST, MOST}) due("days(" + n + ")", b.x.days(n), -1);
        due("THE DAY", b.x.count(0), 0);
        due("0 does not fit 2 and wears, 1 weds 2", b.x.days(1), 1);
        due("WED", b.x.personIs(1, 2), 2);
        due("0 tried 2", b.x.personIs(0, 8), 4);
        due("WEAR", b.x.piece(0, 8), 2);
        due("WEAR of 2", b.x.piece(2, 8), 2);
        due("a draw each two", b.x.count(6), 39022);
        due("0 tries 3: slack 3", b.x.days(1), 0);
        due("WEAR", b.x.piece(0, 8), 4);
        due("two draws", b.x.count(6), 61087);
        due("nobody is left to be tried", b.x.days(60), 0);
        due("THE DAY", b.x.count(0), 62);
        due("WEAR stays", b.x.piece(0, 8), 4);
        for (int d = 0; d < 165; d++) b.x.days(60);
        due("THE DAY", b.x.count(0), 9962);
        b.x.days(38);
        due("THE DAY", b.x.count(0), 9999);
        int x = b.x.count(6);
        due("none goes by", b.x.days(60), 0);
        due("THE DAY", b.x.count(0), 9999);
        due("no draw", b.x.count(6), x);
        lastDays();
        townsInOrder();
        widowsWear();
        creaking();
    }

    private static void lastDays() {
        Bench b = Bench.people(1, 1);
        b.journey(0, "1*9,2*9");
        b.x.person(2, 0, 3);
        for (int d = 0; d < 166; d++) b.x.days(60);
        due("THE DAY", b.x.count(0), 9960);
        b.journey(2, "1*9,2*9,3*9,4*9,5*9");
        b.x.days(60);
        due("39 days only", b.x.personIs(2, 7), 6);
        due("THE DAY", b.x.count(0), 9999);
    }

    private static void townsInOrder() {
        Bench b = new Bench();
        b.x.person(0, 0, 1);
        b.x.person(1, 0, 0);
        b.x.person(2, 1, 0);
        b.x.person(3, 1, 1);
        b.x.person(4, 1, 1);
        b.law("f0(1=1);b9(1=1)");
        b.journey(0, "0");
        b.journey(4, "0");
        due("0 is in town 0, 2 is the lowest there", b.x.tried(1, 10), 2);
        due("1 gets 4", b.x.tried(1, 11), 4);
        due("weds", b.x.days(1), 2);
        due("wed ones do not go", b.journey(2, "5"), 1);
        b.x.days(1);
        due("TOWN", b.x.personIs(2, 1), 0);
        due("left", b.x.personIs(2, 7), 1);
        b.x.dies(0);
        b.x.days(1);
        due("TOWN", b.x.personIs(2, 1), 5);
    }

    private static void widowsWear() {
        Bench b = Bench.people(1, 2);
        b.front(0, 9);
        b.front(1, 8);
        b.x.weds(0, 1);
        b.x.dies(1);
        b.x.wear(0, 98);
        b.front(0, 9, 9, 9, 9, 9, 9, 9, 9);
        b.front(1, 9, 9, 9, 9, 9, 9, 9, 9);
        b.front(2, 9, 9, 9, 9, 9, 9, 9, 9);
        b.law("w9(i=0&j=2&x=2&y=1&p=0&q=1&s=46)");
        due("tries", b.x.days(1), 0);
        due("99 at most", b.x.piece(0, 8), 99);
        due("all pieces of both", b.x.piece(1, 8), 9);
        due("all pieces of both", b.x.piece(2, 8), 9);
    }

    private static void creaking() {
        Bench b = Bench.people(2, 2);
        b.law("c10(1=1);b2(a<9)");
        b.x.weds(1, 2);
        due("not yet", b.x.days(2), 1);
        due("CREAKS", b.x.personIs(1, 3), 2);
        due("CREAKS", b.x.personIs(2, 3), 2);
        due("WED", b.x.personIs(1, 2), 2);
        due("parts", b.x.days(1), 0);
        due("CREAKS stay", b.x.personIs(1, 3), 3);
        due("WED", b.x.personIs(1, 2), -2);
        due("tried", b.x.personIs(1, 8), 4);
        due("tried", b.x.personIs(2, 8), 2);
        Bench c = Bench.people(1, 1);
        c.law("b0(1=1);c0(1=1)");
        c.x.weds(0, 1);
        c.x.days(60);
        due("never creak, never part", c.x.personIs(0, 2), 1);
        c.law("b99(1=1);c10(1=1)");
        c.x.days(60);
        c.x.days(60);
        due("99 at most", c.x.personIs(0, 3), 99);
        c.law("b0(1=1)");
        c.x.days(1);
        due("whether they did or not", c.x.personIs(0, 2), -2);
        drawsBelow();
        lowerFirst();
    }

    private static void drawsBelow() {
        Bench b = Bench.people(1, 1);
        b.law("c3(1=1);b99(1=1)");
        b.x.weds(0, 1);
        int x = 1;
        int creaks = 0;
        for (int d = 0; d < 40; d++) {
            x = (25173 * x + 13849) % 65536;
            creaks += x % 10 < 3 ? 1 : 0;
            b.x.days(1);
            due("X", b.x.count(6), x);
            due("CREAKS", b.x.personIs(1, 3), creaks);
        }
    }

    private static void lowerFirst() {
        Bench b = new Bench();
        b.x.person(3, 1, 0);
        b.x.person(5, 0, 0);
        b.x.weds(5, 3);
        b.law("c10(i=3&j=5&p=1&q=0);b99(i=3&j=5);w7(i=3&j=5)");
        b.x.days(1);
        due("of the WED the lower one first", b.x.personIs(5, 3), 1);
        due("they are still WED", b.x.personIs(5, 2), 3);
        b.front(3, 9, 5);
        due("w of two that are WED", b.x.worn(5, 3), 1);
        b.law("w7(i=5&j=3)");
        due("w of two that are WED", b.x.worn(5, 3), -2);
        b.x.dies(3);
    }

    private static void p11() {
        Bench.part("11 tried");
        Bench b = Bench.people(2, 2);
        b.front(0, 5);
        b.law("f0(1=1);w2(1=1);c10(1=1);b1(1=1)");
        b.journey(3, "1*2,0");
        String before = b.state();
        due("twos that WED", b.x.tried(1, 0), 1);
        due("tries", b.x.tried(1, 1), 2);
        due("none part", b.x.tried(1, 2), 0);
        due("one parts on the second day", b.x.tried(2, 2), 1);
        due("WED then", b.x.tried(1, 3), 1);
        due("WED then", b.x.tried(2, 3), 0);
        due("to whom", b.x.tried(1, 10 + 1), 2);
        due("to whom", b.x.tried(1, 10 + 2), 1);
        due("to nobody", b.x.tried(1, 10 + 0), -2);
        due("WEAR", b.x.tried(1, 30), 2);
        due("WEAR", b.x.tried(60, 41), 0);
        due("tries", b.x.tried(60, 1), 4);
        b.unchanged("tried", before);
        int[][] wrong = {{0, 0}, {61, 0}, {-1, 0}, {1, 4}, {1, -1}, {1, 9}, {1, 14}, {1, 22}, {1, 29}, {1, 42}, {MOST, 0}, {1, LEAST}, {1, MOST}};
        for (int[] w : wrong) due("tried(" + w[0] + ", " + w[1] + ")", b.x.tried(w[0], w[1]), -1);
        b.unchanged("a refused tried", before);
        b.x.dies(3);
        due("a dead one", b.x.tried(1, 13), -2);
        for (int d = 0; d < 167; d++) b.x.days(60);
        due("none goes by", b.x.tried(60, 1), 0);
    }

    private static void p12() {
        Bench.part("12 personIs");
        Bench b = new Bench();
        b.x.person(3, 1, 4);
        b.x.person(7, 0, 4);
        b.x.person(8, 0, 2);
        b.x.person(9, 0, 1);
        b.front(8, 1);
        b.x.dies(9);
        int[] of3 = {1, 4, -2, 0, 1, 8, 1 << 7, 0, 0};
        for (int what = 0; what < 9; what++) due("personIs(3, " + what + ")", b.x.personIs(3, what), of3[what]);
        int[] of9 = {0, 1, -2, 0, 0, 0, 0, 0, 0};
        for (int what = 0; what < 9; what++) due("personIs(9, " + what + ")", b.x.personIs(9, what), of9[what]);
        b.law("f1(1=1)");
        due("of one SIDE too", b.x.personIs(8, 6), 1 << 3 | 1 << 7);
        b.x.days(1);
        due("WED", b.x.personIs(3, 2), 7);
        due("has tried", b.x.personIs(3, 8), 1 << 7);
        due("has tried", b.x.personIs(7, 8), 1 << 3);
        int[][] wrong = {{0, 0}, {-1, 0}, {12, 0}, {3, -1}, {3, 9}, {MOST, 0}, {3, LEAST}};
        for (int[] w : wrong) due("personIs", b.x.personIs(w[0], w[1]), -1);
    }

    private static void p13() {
        Bench.part("13 piece");
        Bench b = Bench.people(2, 1);
        b.edge(0, "-9,-8,-7,-6,6,7,8,9");
        int[] heights = {-9, -8, -7, -6, 6, 7, 8, 9};
        for (int h = 0; h < 8; h++) due("height", b.x.piece(0, h), heights[h]);
        due("holder", b.x.piece(0, 9), 0);
        due("nobody that lives", b.x.piece(11, 9), -2);
        int[][] wrong = {{-1, 0}, {12, 0}, {0, -1}, {0, 10}, {LEAST, 0}, {0, MOST}};
        for (int[] w : wrong) due("piece", b.x.piece(w[0], w[1]), -100);
    }

    private static void p14() {
        Bench.part("14 slack");
        Bench b = Bench.people(2, 2);
        b.edge(0, "1,2,3,4,5,6,7,8");
        b.edge(2, "-8,-7,-6,-5,-4,-3,-2,-1");
        due("height k and 7 - k", b.x.slack(0, 2, 0), 0);
        b.edge(2, "8,-7,-6,-5,-4,-3,-2,-1");
        due("amounts", b.x.slack(0, 2, 0), 16);
        due("either way", b.x.slack(2, 0, 0), 16);
        b.x.wear(0, 5);
        b.x.wear(2, 6);
        due("less the WEAR of both", b.x.slack(0, 2, 0), 5);
        b.x.wear(2, 99);
        due("0 at least", b.x.slack(0, 2, 0), 0);
        b.x.wear(2, 6);
        b.law("f4(1=1);l7(i=0&s=5);l9(i=2&j=0&p=1&q=0)");
        due("do not FIT", b.x.slack(0, 2, 1), 0);
        b.law("f5(i=0&j=2&s=0);l7(i=0&s=5);l9(i=2&j=0&p=1&q=0)");
        due("FIT", b.x.slack(0, 2, 1), 1);
        due("FIT, the one of SIDE 0 first", b.x.slack(2, 0, 1), 1);
        due("likes", b.x.slack(0, 2, 2), 7);
        due("likes", b.x.slack(2, 0, 2), 9);
        b.law("f99(i=1&j=0);f9(i=0&j=1);l200(1=1);f500(i=2)");
        b.x.wear(0, 0);
        due("slack of one SIDE", b.x.slack(1, 0, 0), 36);
        due("of one SIDE the lower one first", b.x.slack(1, 0, 1), 0);
        due("beyond its bounds the bound", b.x.slack(1, 0, 2), 99);
        int[][] wrong = {{0, 0, 0}, {0, 0, 1}, {0, 4, 0}, {4, 0, 1}, {-1, 0, 2}, {0, 12, 0}, {0, 1, -1}, {0, 1, 3}, {MOST, LEAST, 0}};
        for (int[] w : wrong) due("slack", b.x.slack(w[0], w[1], w[2]), -1);
        b.x.weds(0, 2);
        b.x.dies(2);
        b.front(3, 0);
        due("the least over all", b.x.slack(0, 3, 0), 30);
        for (int what = 0; what < 3; what++) {
            due("the first one holds none, whatever is asked", b.x.slack(2, 3, what), -1);
            due("the second one holds none, whatever is asked", b.x.slack(3, 2, what), -1);
        }
        due("the widow holds both, does not FIT", b.x.slack(0, 3, 1), 0);
        due("and likes", b.x.slack(0, 3, 2), 99);
        b.x.dies(0);
        for (int what = 0; what < 3; what++) {
            due("left to nobody", b.x.slack(3, 0, what), -1);
            due("both hold none", b.x.slack(0, 2, what), -1);
        }
    }

    private static void p15() {
        Bench.part("15 locks");
        Bench b = new Bench();
        for (int w = 0; w < 4; w++) due("none", b.x.locks(w), w == 0 ? 0 : -2);
        for (int i = 1; i < 6; i++) b.x.person(i, 0, i);
        due("all of one SIDE", b.x.locks(0), 10);
        due("the first", b.x.locks(1), 1);
        due("the first", b.x.locks(2), 2);
        due("the first", b.x.locks(3), 3);
        b.front(2, 1);
        b.front(3, 1);
        due("threes", b.x.locks(0), 1);
        due("the first", b.x.locks(1), 1);
        due("the first", b.x.locks(2), 4);
        due("the first", b.x.locks(3), 5);
        b.x.dies(5);
        due("that live", b.x.locks(0), 0);
        due("none", b.x.locks(2), -2);
        due("no such what", b.x.locks(-1), -1);
        due("no such what", b.x.locks(4), -1);
        b.law("f1(i=1|j=1|i=2&j=3)");
        due("2 and 3 are flat but for one", b.x.locks(0), 0);
        b.law("f9(1=1)");
        due("any", b.x.locks(0), 4);
    }

    private static void p16() {
        Bench.part("16 most");
        Bench b = Bench.people(3, 3);
        b.law("f5(i=0&j<5);f5(i=1&j=3);f9(i=2)");
        b.front(3, 4);
        b.front(4, 5);
        b.front(5, 1);
        due("how many", b.x.most(20), 3);
        due("0 gets 4", b.x.most(0), 4);
        due("1 gets 3", b.x.most(1), 3);
        due("2 gets 5", b.x.most(2), 5);
        due("SLACK", b.x.most(21), 10);
        b.law("f9(1=1)");
        b.front(5, 0);
        b.front(4, 0);
        b.front(3, 0);
        due("the least row", b.x.most(0), 3);
        due("the least row", b.x.most(2), 5);
        b.front(3, 9);
        b.x.dies(2);
        due("the least SLACK", b.x.most(21), 0);
        due("the least SLACK", b.x.most(0), 4);
        due("the least SLACK", b.x.most(1), 5);
        due("a dead one is no such one", b.x.most(2), -1);
        due("that live", b.x.most(20), 2);
        b.x.weds(0, 3);
        due("not looking at who is WED", b.x.most(0), 4);
        b.x.dies(4);
        b.x.dies(5);
        due("one is left", b.x.most(20), 1);
        due("the least row: 0 before nobody", b.x.most(0), 3);
        due("nobody", b.x.most(1), -2);
        due("SLACK", b.x.most(21), 9);
        for (int w : new int[] {-1, 3, 6, 12, 19, 22, LEAST, MOST}) due("most(" + w + ")", b.x.most(w), -1);
        Bench c = Bench.people(1, 11);
        due("one and eleven", c.x.most(20), 1);
        Bench d = Bench.people(11, 1);
        due("eleven and one", d.x.most(0), 1 + 10);
        due("nobody", d.x.most(10), -2);
        due("twelve of one", Bench.people(0, 12).x.most(20), 0);
        due("twelve of one", Bench.people(12, 0).x.most(11), -2);
        Bench e = Bench.people(1, 1);
        e.x.weds(0, 1);
        due("WED, that lives", e.x.most(0), 1);
        e.x.dies(0);
        due("who died WED is no such one", e.x.most(0), -1);
        due("nor is a widow of SIDE 1", e.x.most(1), -1);
        due("how many", e.x.most(20), 0);
        due("SLACK", e.x.most(21), 0);
    }

    private static void p17() {
        Bench.part("17 stable");
        Bench b = Bench.people(3, 3);
        b.law("l9(i=0&j=3|i=1&j=3|i=2&j=4);l5(i<3);l1(i=3&j=0);l2(i=3&j=1);l3(i=4);l0(i=3);l4(1=1)");
        due("3 keeps 1", b.x.stable(3), 1);
        due("0 asks 4 then, who likes both alike and keeps the lower one", b.x.stable(0), 4);
        due("2 gets 5", b.x.stable(2), 5);
        due("how many", b.x.stable(20), 3);
        b.law("l9(i=0&j=3|i=1&j=3|i=2&j=4);l5(i<3&j<5);l2(i=3&j=1);l3(i=4);l0(i=3);l4(i=5)");
        due("with l 0 not at all", b.x.stable(5), -2);
        due("nobody", b.x.stable(2), -2);
        due("how many", b.x.stable(20), 2);
        b.law("l9(i<3);l0(i=3);l9(1=1)");
        due("with l 0 none", b.x.stable(3), -2);
        due("the lowest of like ones", b.x.stable(4), 0);
        b.law("f0(1=1);l9(1=1)");
        b.front(3, 1);
        due("those that FIT", b.x.stable(0), 4);
        b.x.weds(0, 3);
        due("not looking at who is WED", b.x.stable(0), 4);
        b.x.dies(4);
        due("that live", b.x.stable(0), 5);
        due("that live", b.x.stable(4), -1);
        for (int w : new int[] {-1, 6, 12, 19, 21, 22, LEAST, MOST}) due("stable(" + w + ")", b.x.stable(w), -1);
    }

    private static void p18() {
        Bench.part("18 unrest");
        Bench b = Bench.people(2, 2);
        due("no likings", b.x.unrest(0), 0);
        b.law("l5(1=1)");
        due("all", b.x.unrest(0), 4);
        due("the first", b.x.unrest(1), 0);
        due("the first", b.x.unrest(2), 2);
        b.x.weds(0, 2);
        due("each more than now", b.x.unrest(0), 1);
        due("the first", b.x.unrest(1), 1);
        due("the first", b.x.unrest(2), 3);
        b.law("l5(i=0&j=2);l6(i=0|i=3)");
        due("only one likes more", b.x.unrest(0), 1);
        due("the first", b.x.unrest(1), 0);
        due("the first", b.x.unrest(2), 3);
        b.front(3, 1);
        due("they must FIT", b.x.unrest(0), 0);
        due("none", b.x.unrest(1), -2);
        due("none", b.x.unrest(2), -2);
        b.front(3, 0);
        b.x.dies(3);
        due("they must live", b.x.unrest(0), 0);
        for (int w : new int[] {-1, 3, LEAST, MOST}) due("unrest(" + w + ")", b.x.unrest(w), -1);
    }

    private static int searched(Bench b, int n, int what, int... bytes) {
        b.bytes(bytes);
        return b.x.search(n, what);
    }

    private static void p19() {
        Bench.part("19 search");
        Bench b = new Bench();
        due("above", searched(b, 2, 20, 2, 4, 0, 3, 9, 0), 2);
        due("below", searched(b, 2, 21, 2, 4, 0, 3, 9, 0), 1);
        due("order", searched(b, 2, 0, 2, 4, 0, 3, 9, 0), 0);
        due("order", searched(b, 2, 1, 2, 4, 0, 3, 9, 0), 1);
        due("empty then", b.x.count(5), 0);
        int[] three = {0, 1, 1, 255, 2, 2, 9, 255, 3, 9, 3, 255};
        due("of like ones the least", searched(b, 3, 1, three), 1);
        due("above", searched(b, 3, 20, three), 7);
        due("below", searched(b, 3, 21, three), 2);
        int[] oneWay = {0, 1, 1, 0, 2, 2, 0, 0, 9, 0, 3, 0};
        due("from town to town", searched(b, 3, 20, oneWay), -2);
        oneWay[6] = 1;
        oneWay[9] = 20;
        due("from town to town", searched(b, 3, 1, oneWay), 2);
        due("nothing to do", searched(b, 2, 20, 99, 0, 0, 20, 20, 0), 0);
        due("nothing to do", searched(b, 2, 21, 99, 0, 0, 20, 20, 0), 1);
        due("no weight", searched(b, 2, 20, 0, 0, 0, 20, 20, 0), -2);
        due("100", searched(b, 2, 20, 100, 0, 0, 20, 20, 0), -2);
        due("21 days", searched(b, 2, 20, 1, 0, 0, 21, 20, 0), -2);
        due("0 days", searched(b, 2, 20, 1, 0, 0, 20, 0, 0), -2);
        for (int w : new int[] {-1, 2, 19, 22, MOST, LEAST}) due("place", searched(b, 2, w, 1, 0, 0, 20, 20, 0), -3);
        due("empty then", b.x.count(5), 0);
        b.bytes(1, 1, 0, 1, 1, 0);
        for (int n : new int[] {1, 0, -1, 7, 5, LEAST, MOST, 65536}) due("search(" + n + ")", b.x.search(n, 20), -1);
        due("the tape stays", b.x.count(5), 20);
        due("20 bytes are enough for 4", b.x.search(4, 20), -2);
        int[] six = new int[42];
        for (int t = 0; t < 6; t++) {
            six[t] = t * 10;
            for (int u = 0; u < 6; u++) six[6 + 6 * t + u] = 1 + (t + 2 * u) % 7;
        }
        int[] best = bestOfSix(six);
        for (int p = 0; p < 6; p++) due("six, place " + p, searched(b, 6, p, six), best[p]);
    }

    private static int[] bestOfSix(int[] six) {
        int[] best = null;
        int least = MOST;
        for (int code = 0; code < 100000; code++) {
            int[] order = {0, code / 10000, code / 1000 % 10, code / 100 % 10, code / 10 % 10, code % 10};
            int seen = 0;
            for (int t : order) seen |= 1 << t;
            if (seen != 63) continue;
            int days = 0;
            int sum = 0;
            for (int p = 1; p < 6; p++) {
                days += six[6 + 6 * order[p - 1] + order[p]];
                sum += six[order[p]] * days;
            }
            if (sum < least) {
                least = sum;
                best = order;
            }
        }
        return best;
    }

    private static void p20() {
        Bench.part("20 sanding");
        Bench b = Bench.people(2, 2);
        b.edge(1, "0*6,-2,-1");
        due("work", b.x.sanding(0, 1, 0, -1, 0, 10, 0), 3);
        due("height 0", b.x.sanding(0, 1, 0, -1, 0, 0, 0), 11);
        due("height 1", b.x.sanding(0, 1, 0, -1, 0, 1, 0), 12);
        due("height 7", b.x.sanding(0, 1, 0, -1, 0, 7, 0), 10);
        due("the lowest first", b.x.sanding(0, 1, 2, -1, 0, 0, 0), 10);
        due("the lowest first", b.x.sanding(0, 1, 2, -1, 0, 1, 0), 11);
        due("byB is not looked at", b.x.sanding(0, 1, 0, -1, MOST, 10, 0), 3);
        due("others", b.x.sanding(0, 1, 0, -1, 0, 11, 0), 1);
        due("others", b.x.sanding(0, 1, 0, -1, 0, 11, 3), 3);
        b.x.wear(0, 1);
        due("WEAR counts", b.x.sanding(0, 1, 0, -1, 0, 10, 0), 2);
        due("WEAR counts", b.x.sanding(0, 1, 59, -1, 0, 10, 0), 0);
        due("too much", b.x.sanding(0, 1, 60, -1, 0, 10, 0), -1);
        b.x.wear(0, 0);
        due("60 at most", b.x.sanding(0, 1, 60, -1, 0, 10, 0), 0);
        due("two", b.x.sanding(0, 1, 0, 2, 3, 10, 0), 3);
        due("it can't be so", b.x.sanding(0, 1, 0, 2, 2, 10, 0), -2);
        due("it can't be so", b.x.sanding(0, 1, 0, 2, 2, 11, 0), -2);
        due("it can't be so", b.x.sanding(0, 1, 0, 2, 2, 0, 0), -2);
        due("between the two", b.x.sanding(0, 1, 1, 2, 2, 10, 0), 2);
        due("dead ones are told", b.x.dies(3), true);
        due("others", b.x.sanding(0, 1, 0, -1, 0, 11, 3), 3);
        b.edge(4, "9*8");
        b.edge(5, "9*8");
        due("from end to end", b.x.sanding(4, 5, 0, -1, 0, 10, 0), 144);
        due("pieces of nobody told", b.x.sanding(4, 5, 0, -1, 0, 3, 0), 1);
        String before = b.state();
        int[][] wrong = {{-1, 1, 0, -1, 0, 10, 0}, {12, 1, 0, -1, 0, 10, 0}, {0, -1, 0, -1, 0, 10, 0}, {0, 12, 0, -1, 0, 10, 0},
            {0, 0, 0, -1, 0, 10, 0}, {0, 1, 0, 1, 0, 10, 0}, {0, 1, 0, 0, 0, 10, 0}, {0, 1, 0, 12, 0, 10, 0}, {0, 1, 0, -2, 0, 10, 0},
            {0, 1, -1, -1, 0, 10, 0}, {0, 1, 61, -1, 0, 10, 0}, {0, 1, 0, 2, 61, 10, 0}, {0, 1, 0, 2, -1, 10, 0}, {0, 1, MOST, -1, 0, 10, 0},
            {0, 1, LEAST, 2, MOST, 10, 0}, {0, 1, 0, 2, MOST, 10, 0}, {0, 1, 0, -1, 0, 8, 0}, {0, 1, 0, -1, 0, 9, 0}, {0, 1, 0, -1, 0, 12, 0},
            {0, 1, 0, -1, 0, -1, 0}, {0, 1, 0, -1, 0, 10, -1}, {0, 1, 0, -1, 0, 10, 100}, {0, 1, 0, -1, 0, MOST, MOST}};
        for (int[] w : wrong) due("sanding", b.x.sanding(w[0], w[1], w[2], w[3], w[4], w[5], w[6]), -1);
        due("more 99", b.x.sanding(0, 1, 0, -1, 0, 10, 99), 3);
        b.unchanged("sanding", before);
    }

    private static void p21() {
        Bench.part("21 steaming");
        Bench b = new Bench();
        b.edge(0, "1,2,3,4,5,6,7,8");
        b.edge(1, "-1,-8,-7,-6,-5,-4,-3,-2");
        due("one turn", b.x.steaming(0, 1, 0, 0), 1);
        due("one turn", b.x.steaming(0, 1, 0, 1), 1);
        due("no raising", b.x.steaming(0, 1, 0, 2), 10);
        b.edge(2, "9*8");
        b.edge(3, "-9*8");
        due("fits as it is", b.x.steaming(2, 3, 0, 0), 0);
        b.edge(3, "0*8");
        due("lowered by 9", b.x.steaming(2, 3, 0, 2), 1);
        b.edge(4, "9*7,8");
        b.edge(5, "-9*8");
        due("9 at the bounds", b.x.steaming(4, 5, 0, 2), 11);
        due("fewest turns first", b.x.steaming(4, 5, 0, 1), 0);
        b.edge(6, "5*8");
        b.edge(7, "-5*4,5*4");
        due("never", b.x.steaming(6, 7, 39, 0), -2);
        due("never", b.x.steaming(6, 7, 39, 2), -2);
        b.edge(8, "1,-1*7");
        b.edge(9, "0*8");
        due("alike: the lowest raising", b.x.steaming(8, 9, 7, 2), 11);
        b.edge(8, "1*4,-1*4");
        due("alike: the lowest raising", b.x.steaming(8, 9, 8, 0), 0);
        b.edge(10, "0*4,1*4");
        b.edge(11, "-1*4,0*4");
        due("as it is", b.x.steaming(10, 11, 8, 0), 0);
        b.x.wear(6, 30);
        b.x.wear(7, 10);
        due("WEAR counts", b.x.steaming(6, 7, 0, 0), 0);
        due("0 to 99", b.x.steaming(6, 7, 99, 0), 0);
        int[][] wrong = {{0, 0, 0, 0}, {-1, 0, 0, 0}, {12, 0, 0, 0}, {0, -1, 0, 0}, {0, 12, 0, 0}, {0, 1, -1, 0}, {0, 1, 100, 0},
            {0, 1, 0, -1}, {0, 1, 0, 3}, {0, 1, MOST, 0}};
        for (int[] w : wrong) due("steaming", b.x.steaming(w[0], w[1], w[2], w[3]), -1);
    }

    private static void p22() {
        Bench.part("22 worn");
        Bench b = Bench.people(2, 2);
        due("they FIT", b.x.worn(0, 2), 0);
        b.front(0, 9, 9);
        due("no wear", b.x.worn(0, 2), -2);
        b.law("w2(s=18);f1(1=1)");
        due("5 tries", b.x.worn(0, 2), 5);
        due("either way", b.x.worn(2, 0), 5);
        b.law("w2(s=18);f2(1=1)");
        due("4 tries", b.x.worn(0, 2), 4);
        b.x.wear(0, 99);
        b.edge(0, "9*8");
        b.edge(2, "9*8");
        b.law("w1(i=0&j=2)");
        due("99 at most", b.x.worn(0, 2), 45);
        b.x.weds(1, 2);
        due("w of two that are not WED to each other", b.x.worn(0, 2), 45);
        b.x.dies(1);
        due("the widow's other piece", b.x.worn(0, 2), 0);
        String before = b.state();
        int[][] wrong = {{0, 0}, {0, 1}, {2, 3}, {1, 2}, {0, 4}, {-1, 2}, {0, 12}, {MOST, LEAST}};
        for (int[] w : wrong) due("worn", b.x.worn(w[0], w[1]), -1);
        b.unchanged("worn", before);
    }

    private static int cut(Bench b, int n, int what, int... bytes) {
        b.bytes(bytes);
        return b.x.cutter(n, what);
    }

    private static void p23() {
        Bench.part("23 cutter");
        Bench b = new Bench();
        b.edge(0, "1,2,3,4,5,6,7,8");
        b.edge(1, "-5,-6,-7,-8,-1,-2,-3,-4");
        b.edge(2, "-3,-4,-5,-6,1,0,-1,-2");
        due("shift 4, the other sign", cut(b, 1, 1, 0, 1), 14 * 4 + 7 + 3);
        due("one rule", cut(b, 1, 0, 0, 1), 1);
        due("and 2 more", cut(b, 1, 1, 0, 2), 14 * 4 + 7 + 5);
        due("both can't be", cut(b, 2, 0, 0, 1, 0, 2), 0);
        due("no rule", cut(b, 2, 1, 0, 1, 0, 2), -2);
        due("no rule", cut(b, 2, 10, 0, 1, 0, 2), -2);
        due("makes 1 of 0", cut(b, 1, 10, 0, 1), 1);
        due("makes 0 of 1", cut(b, 1, 11, 0, 1), 0);
        due("flat ones: the lowest", cut(b, 1, 10 + 11, 0, 1), 3);
        due("none is so", cut(b, 1, 12, 0, 1), -2);
        due("flat ones: 16 rules", cut(b, 1, 0, 3, 4), 16);
        due("five twos", cut(b, 5, 0, 0, 1, 1, 0, 0, 1, 1, 0, 0, 1), 1);
        due("bytes behind are not looked at", cut(b, 1, 0, 0, 1, 99, 99), 1);
        due("no such piece", cut(b, 1, 0, 0, 12), -3);
        due("no such piece", cut(b, 2, 21, 0, 1, 255, 0), -3);
        due("one twice in a two", cut(b, 2, 1, 0, 1, 3, 3), -3);
        due("empty then", b.x.count(5), 0);
        b.bytes(0, 1);
        for (int n : new int[] {0, 6, -1, LEAST, MOST}) due("cutter(" + n + ")", b.x.cutter(n, 0), -1);
        for (int w : new int[] {-1, 2, 9, 22, LEAST, MOST}) due("cutter", b.x.cutter(1, w), -1);
        due("the tape stays", b.x.count(5), 20);
        due("five twos of 20 bytes", b.x.cutter(5, 0), -3);
        due("not so many", b.x.cutter(1, 0), -1);
    }

    private static void p24() {
        Bench.part("24 copies");
        Bench b = new Bench();
        due("none told", b.x.copies(0), 0);
        due("none", b.x.copies(1), -2);
        due("none", b.x.copies(3), -2);
        b.x.person(2, 0, 0);
        b.x.person(5, 0, 0);
        b.x.person(9, 1, 0);
        due("flat ones", b.x.copies(0), 3);
        b.front(2, 1);
        due("twos", b.x.copies(0), 1);
        due("lower", b.x.copies(1), 5);
        due("higher", b.x.copies(2), 9);
        due("alike: the higher one", b.x.copies(3), 9);
        b.x.wear(9, 1);
        due("less WEAR", b.x.copies(3), 5);
        b.x.wear(5, 2);
        due("less WEAR", b.x.copies(3), 9);
        b.x.dies(9);
        due("a dead one is told", b.x.copies(0), 1);
        due("no such what", b.x.copies(-1), -1);
        due("no such what", b.x.copies(4), -1);
    }

    private static void p25() {
        Bench.part("25 mate");
        Bench b = new Bench();
        b.edge(11, "-9,-1,0,1,2,3,4,9");
        b.x.wear(11, 50);
        int[] mates = {1, 6, 7, 8, 9, 10, 11, 19};
        for (int h = 0; h < 8; h++) due("mate", b.x.mate(11, h), mates[h]);
        int[][] wrong = {{-1, 0}, {12, 0}, {0, -1}, {0, 8}, {MOST, LEAST}};
        for (int[] w : wrong) due("mate", b.x.mate(w[0], w[1]), -1);
    }

    private static void p26() {
        Bench.part("26 seed");
        Bench b = Bench.people(1, 1);
        due("seed(65535)", b.x.seed(65535), true);
        due("X", b.x.count(6), 65535);
        b.x.weds(0, 1);
        b.x.days(1);
        due("X", b.x.count(6), (int) ((25173L * 65535 + 13849) % 65536));
        due("seed(0)", b.x.seed(0), true);
        due("X", b.x.count(6), 0);
        for (int x : new int[] {-1, 65536, LEAST, MOST}) due("seed(" + x + ")", b.x.seed(x), false);
        due("X", b.x.count(6), 0);
    }

    private static void p27() {
        Bench.part("27 keep");
        Bench b = Bench.people(2, 2);
        due("keep", b.x.keep(), 0);
        b.x.weds(0, 3);
        due("keep", b.x.keep(), 1);
        b.x.weds(1, 2);
        due("keep", b.x.keep(), 2);
        b.x.dies(0);
        due("undo", b.x.undo(), true);
        due("as KEPT last", b.x.count(3), 2);
    }

    private static void p28() {
        Bench.part("28 undo");
        Bench b = Bench.people(2, 2);
        due("none was KEPT", b.x.undo(), false);
        b.front(0, 1);
        b.law("w1(1=1);c5(1=1);b1(1=1);l3(1=1)");
        b.journey(1, "1,2,0*5");
        b.x.days(1);
        String before = b.state();
        b.x.keep();
        b.x.days(20);
        b.x.person(7, 0, 3);
        b.x.wear(7, 8);
        b.front(8, 8);
        b.journey(0, "5");
        b.x.dies(3);
        b.x.seed(77);
        due("undo", b.x.undo(), true);
        b.unchanged("all but law and tape: undo", before);
        due("7 can be told again", b.x.person(7, 1, 1), true);
        b.x.days(3);
        due("undo again", b.x.undo(), true);
        b.unchanged("undo again", before);
        b.law("f9(1=1)");
        b.feed("");
        b.x.undo();
        due("THE LAW is not undone", b.x.count(4), 1);
        due("the tape is not undone", b.x.count(5), 20);
    }

    private static void p29() {
        Bench.part("29 check");
        Bench b = new Bench();
        b.edge(3, "-9,-8,0,1,2,3,8,9");
        due("right", b.bytes(0, 1, 9, 10, 11, 12, 17, 18).x.check(3, 8), -1);
        due("empty then", b.x.count(5), 0);
        due("the first that is not so", b.bytes(0, 1, 9, 11, 11, 12, 17, 19).x.check(3, 8), 3);
        due("so many are looked at", b.bytes(0, 1, 9, 11).x.check(3, 3), -1);
        due("none are looked at", b.bytes(5).x.check(3, 0), -1);
        due("empty then", b.x.count(5), 0);
        due("not so many", b.x.check(3, 1), -2);
        b.bytes(0);
        int[][] wrong = {{-1, 0}, {12, 0}, {0, -1}, {0, 9}, {MOST, 0}, {0, LEAST}, {0, MOST}};
        for (int[] w : wrong) due("check", b.x.check(w[0], w[1]), -2);
        due("the tape stays", b.x.count(5), 20);
    }

    private static void p30() {
        Bench.part("30 count");
        Bench b = new Bench();
        b.x.person(0, 0, 5);
        b.x.person(4, 1, 5);
        b.x.person(11, 1, 0);
        b.x.weds(0, 4);
        b.law("f1(1=1);b5(1=1)");
        b.feed("");
        b.x.dies(11);
        b.x.days(2);
        int[] due = {2, 1 << 0 | 1 << 4 | 1 << 11, 1 << 0 | 1 << 4, 1, 2, 20, 61087};
        for (int c = 0; c < 7; c++) due("count(" + c + ")", b.x.count(c), due[c]);
        for (int t = 0; t < 6; t++) due("town " + t, b.x.count(10 + t), t == 5 ? 17 : 0);
        for (int c : new int[] {-1, 7, 8, 9, 16, LEAST, MOST}) due("count(" + c + ")", b.x.count(c), -1);
    }

    // ---- the law's language

    /** How much 0 likes 1 by an E. */
    private static int like(Bench b, String e) {
        return like(b, e, "1=1");
    }

    private static int like(Bench b, String e, String c) {
        due(e + "(" + c + ")", b.law("l" + e + "(" + c + ")"), 1);
        return b.x.slack(0, 1, 2);
    }

    private static void lawReckons() {
        Bench.part("7 law, reckoning");
        Bench b = new Bench();
        b.x.person(0, 0, 3);
        b.x.person(1, 1, 2);
        b.x.person(2, 0, 2);
        b.x.weds(2, 1);
        b.x.dies(2);
        b.front(0, 4);
        b.front(2, 4);
        String[] es = {"1+2*3", "9-3-2", "40/7/2", "40%7*2", "[1+2]*3", "5-9", "99999", "x*10+y", "u*10+v", "j*10+i", "s", "p*10+q",
            "99999*99999/99999", "0-7/2+9", "[0-7]%4+9", "7*[2-[3-4]]", "00012", "1/0", "1%0", "7/[i-0]", "0/5", "100", "99"};
        int[] due = {7, 4, 2, 10, 9, 0, 99, 12, 32, 10, 4, 1, Math.max(0, Math.min(99, 99999 * 99999 / 99999)), 6, 6, 21, 12, 0, 0, 0, 0, 99, 99};
        for (int t = 0; t < es.length; t++) due(es[t], like(b, es[t]), due[t]);
        String[] cs = {"1<2", "2<2", "3>2", "2>2", "2=2", "2=3", "!1=2", "!!1=1", "(1=2|1=1)&2=2", "1=2|1=1&2=3", "1=1|1=2&2=3",
            "!(1=1&2=2)", "!1=1|2=2", "99999*99999<0", "d=0", "a=0", "s=4", "0-1<0", "x=1&y=2", "99999*99999*0=0"};
        int[] holds = {1, 0, 1, 0, 1, 0, 1, 1, 1, 0, 1, 0, 1, 99999 * 99999 < 0 ? 1 : 0, 1, 1, 1, 1, 1, 1};
        for (int t = 0; t < cs.length; t++) due(cs[t], like(b, "1", cs[t]), holds[t]);
        due("the machine's own bounds", like(b, "5", "[0-32768*65536]/[0-1]<0"), 5);
        due("the machine's own bounds", like(b, "5", "[0-32768*65536]%[0-1]=0"), 5);
        due("the first that holds", b.law("l3(1=2);f1(1=1);l4(1=1);l5(1=1)"), 4);
        due("the first that holds", b.x.slack(0, 1, 2), 4);
        due("16", b.law("f1(1=1);l0(1=2);l0(1=2);l0(1=2);l0(1=2);l0(1=2);l0(1=2);l0(1=2);l0(1=2);l0(1=2);l0(1=2);l0(1=2);l0(1=2);l0(1=2);l0(1=2);l8(1=1)"), 16);
        due("16", b.x.slack(0, 1, 2), 8);
    }

    private static void lawShortCuts() {
        Bench.part("7 law, what is refused");
        Bench b = Bench.people(1, 1);
        String[] cs = {"1/0=1", "!1/0=1", "1/0=1|1=1", "1=1|1/0=1", "1=2&1/0=1|1=1", "1=1&1/0=1|1=1", "!(1=2&1/0=1)", "(1/0=1)|1=1",
            "1=1&(1=1|1%0=0)", "1%0=0&1=2|1=1", "1=2|(1=1|1/0=1)&1=1", "!!(1=1|1/0=0)"};
        int[] holds = {0, 0, 0, 1, 1, 0, 1, 0, 1, 0, 1, 1};
        for (int t = 0; t < cs.length; t++) due(cs[t], like(b, "1", cs[t]), holds[t]);
        b.law("l5(1/0=0);l6(1=1)");
        due("the next clause then", b.x.slack(0, 1, 2), 6);
        b.law("l5/0(1=1);l6(1=1)");
        due("an E is 0", b.x.slack(0, 1, 2), 0);
    }

    private static void lawFaults() {
        Bench.part("7 law, faults");
        Bench b = new Bench();
        String[] texts = {"", "x", "f", "f1", "f1(", "f1()", "f1(1)", "f1(1=)", "f1(1=1", "f1(1=1))", "f1(1=1);", "f1(1=1),", "f(1=1)",
            "f 1(1=1)", "f123456(1=1)", "f1(123456=1)", "f1(1=1=1)", "f1(1=1&)", "f1(1=1|)", "f1(!)", "f1((1=1)", "f1([1=1)", "f1(1+=1)",
            "f-1(1=1)", "f1(1=-1)", "f1(z=1)", "f1(1=1)f1(1=1)", "f[1](1=1)", "f[1(1=1)", "f[1=1](1=1)", "f[](1=1)", "f1(())",
            "f[[[[[[1]]]]]](1=1)", "f[[[[[[[1]]]]]]](1=1)", "f1(((((([1]=1))))))", "f1((((((1=1))))))", "f1(((((((1=1)))))))",
            "f1(!!!!!1=1)", "f1(!!!!!!1=1)", "f1(!!!!![1]=1)", "f1(!!!!1=1&!!!!!1=1)", "f1(!(!(![1]=1)))", "f1([[[[[1]]]]]=1)",
            "f1([[[[[[1]]]]]]=1)", "f1(1=[[[[[[1]]]]]])", "f1(1=1&!!!!!!1=1)", "f1(1=1)!!!!!!!", "f12345(12345=12345)", "fi(1=1)", "fk(1=1)",
            "f1(1=1)\u00e6", "f1(1=1);\u00e6", "f\u00ff(1=1)", "f1(a*b=1)", "f1(a*=1)"};
        int[] due = {-1, -1000, -1001, -1002, -1003, -1003, -1004, -1005, -1006, -1007, -1008, -1007, -1001,
            -1001, -2006, -2008, -1006, -1007, -1007, -1004, -1008, -1005, -1005,
            -1001, -1005, -1003, -1007, 1, -1003, -1003, -1002, -1004,
            1, -5007, -5008, 1, -5008,
            1, -5008, -5008, 1, -5008, 1,
            -5008, -5010, -5012, -1007, 1, 1, -1001,
            -1007, -1008, -1001, -1005, -1005};
        for (int t = 0; t < texts.length; t++) due(texts[t], b.law(texts[t]), due[t]);
        StringBuilder s = new StringBuilder();
        for (int c = 0; c < 16; c++) s.append(c > 0 ? ";" : "").append("f1(1=1)");
        due("16", b.law(s.toString()), 16);
        due("a 17th", b.law(s + ";f"), -4128);
        due("a 17th", b.law(s + ";f1(1=1)"), -4128);
        due("no letter", b.law(s + ";g"), -1128);
        due("the end", b.law(s + ";"), -1128);
    }
}
