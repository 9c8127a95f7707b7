/** The terms of journeys, days and deaths, sentence by sentence. */
final class DayTerms extends Sentences {
    static void all() {
        journeyTexts();
        stops();
        everySign();
        journeyFaults();
        seventeenthStop();
        theWay();
        whoTriesWhom();
        aTry();
        draws();
        parting();
        lastDay();
        drawsThemselves();
        deaths();
        trying();
    }

    private static void journeyTexts() {
        says("A JOURNEY of a PERSON: a TEXT of at most 40 bytes (none at first):");
        Bench b = Bench.people(1, 0);
        due("none at first", b.x.personIs(0, 7), 0);
        b.x.days(1);
        due("none at first: it stays", b.x.personIs(0, 1), 0);
        String ten = many("1*9", ",", 10);
        due("the length", ten.length(), 39);
        due("39 bytes", b.journey(0, ten), 90);
        b.feed(ten + ",1");
        due("41 bytes", b.x.journey(0, 41), -1);
        due("the tape stays", b.x.count(5), 60);
        due("40 bytes are read", b.x.journey(0, 40), -1040);
        due("the one before stays", b.x.personIs(0, 7), 90);
        due("39 bytes, 16 STOPS", b.journey(0, many("1*9", ",", 4) + "," + many("2", ",", 12)), 48);
    }

    private static void stops() {
        says("STOPS (16 at most) with a , between two: a TOWN (a digit 0 to 5), perhaps with * and a digit 2 to 9: so many DAYS there.");
        Bench b = Bench.people(1, 0);
        journeys(b, 0, many("1", ",", 15), 15, many("1", ",", 16), 16, many("1", ",", 17), -4032, "0", 1, "5", 1, "6", -3000, "9", -3000, "/", -1000,
            ":", -1000, "0*2", 2, "0*9", 9, "0*1", -1002, "0*0", -1002, "0*:", -1002, "0*/", -1002, "0*10", -1002, "0*2*2", -1003, "0*22", -1003);
        journeys(b, 0, "0,1", 2, "0;1", -1001, "01", -1001, "0,,1", -1002, ",0", -1000, "-1", -1000, "0,5*9,4", 11);
        int[] towns = {0, 5, 5, 5, 5, 5, 5, 5, 5, 5, 4, 4};
        for (int town : towns) {
            b.x.days(1);
            due("so many DAYS there", b.x.personIs(0, 1), town);
        }
    }

    /** Every sign where a STOP begins, behind it, behind its *. */
    private static void everySign() {
        says("STOPS (16 at most) with a , between two: a TOWN (a digit 0 to 5), perhaps with * and a digit 2 to 9: so many DAYS there.");
        for (char c = 0; c < 256; c++) {
            Bench b = Bench.people(1, 0);
            boolean town = c >= '0' && c <= '5';
            boolean above = c >= '6' && c <= '9';
            due("TOWN " + (int) c, b.journey(0, "" + c), town ? 1 : above ? -3000 : -1000);
            due("a second TOWN " + (int) c, b.journey(0, "5*3," + c), town ? 4 : above ? -3004 : -1004);
            due("between two: " + (int) c, b.journey(0, "1" + c + "2"), c == ',' ? 2 : c == '*' ? 2 : -1001);
            due("1* and " + (int) c, b.journey(0, "1*" + c), c >= '2' && c <= '9' ? c - '0' : -1002);
            due("1*2 and " + (int) c, b.journey(0, "1*2" + c + "0"), c == ',' ? 3 : -1003);
        }
        Bench all = Bench.people(1, 0);
        all.feed("0,1,2,3,4,5,0,1,2,3,");
        due("all 20 bytes of the tape", all.x.journey(0, 20), -1020);
        all.feed("0,1,2,3,4,5,0,1,2,3,").feed("0*9,1*9,2*9,3*9,4*9,");
        due("all 40 bytes of the tape", all.x.journey(0, 40), -1040);
    }

    private static void journeyFaults() {
        says("FAULTS: 1 what can't stand there (the end, too); 3 a TOWN above 5, at it;");
        Bench b = Bench.people(1, 1);
        String right = "0,1*9,5,4*2,3";
        journeys(b, 0, right, 14);
        String before = b.state();
        for (int n = 1; n < right.length(); n++) {
            char last = right.charAt(n - 1);
            if (last == ',' || last == '*') due("the end of " + right.substring(0, n), b.journey(0, right.substring(0, n)), -1000 - n);
        }
        for (int p = 0; p < right.length(); p++) {
            Bench each = Bench.people(1, 1);
            for (char c : STRANGE) due("sign " + (int) c + " at " + p, each.journey(0, put(right, p, c)), -1000 - p);
            due("none still", each.x.personIs(0, 7), 0);
        }
        for (char c = '6'; c <= '9'; c++) {
            journeys(b, 0, "" + c, -3000, "0," + c, -3002, "0*2," + c, -3004, c + "x", -3000, "x" + c, -1000, "0*1," + c, -1002, "0" + c, -1001);
        }
        journeys(b, 0, many("1", ",", 15) + ",6", -3030, many("1", ",", 15) + ",6,6", -3030);
        b.unchanged("a FAULT", before);
    }

    private static void seventeenthStop() {
        says("4 a 17th STOP, at its first byte (a digit, also above 5: ahead of 3).");
        Bench b = Bench.people(1, 0);
        String sixteen = many("1", ",", 16);
        for (char c = '0'; c <= '9'; c++) due("17th " + c, b.journey(0, sixteen + "," + c), -4032);
        for (char c : ",*-/:x ".toCharArray()) due("17th " + c, b.journey(0, sixteen + "," + c), -1032);
        journeys(b, 0, sixteen + ",", -1032, sixteen + "*2,1", -4034, sixteen + ",1*1", -4032, sixteen + ",1,1", -4032, sixteen, 16);
    }

    private static void theWay() {
        says("A DAY: (1) each PERSON that lives and is not WED, by numbers: with a JOURNEY that is not over it is in the TOWN of its next DAY.");
        Bench b = new Bench();
        for (int i = 0; i < 4; i++) b.x.person(i, i & 1, 0);
        for (int i = 0; i < 4; i++) b.journey(i, "3,4*2");
        b.x.weds(2, 3);
        b.x.dies(1);
        b.law("b99(1=1)");
        int[] towns = {3, 4, 4, 4};
        int[] left = {2, 1, 0, 0};
        for (int d = 0; d < 4; d++) {
            b.x.days(1);
            due("TOWN", b.x.personIs(0, 1), towns[d]);
            due("DAYS left", b.x.personIs(0, 7), left[d]);
            for (int i = 1; i < 4; i++) {
                due("the dead and the WED stay", b.x.personIs(i, 1), 0);
                due("the dead and the WED stay", b.x.personIs(i, 7), 3);
            }
        }
        b.x.dies(3);
        b.x.days(1);
        due("a widow goes", b.x.personIs(2, 1), 3);
        due("a widow goes", b.x.personIs(2, 7), 2);
        Bench c = new Bench();
        c.x.person(0, 0, 0);
        c.x.person(1, 1, 1);
        c.journey(0, "1");
        due("they meet where they have come", c.x.days(1), 1);
    }

    private static void whoTriesWhom() {
        says("(2) In each TOWN, by numbers: each PERSON of SIDE 0 there that lives and is not WED, by numbers, "
            + "tries the lowest one of SIDE 1 there that lives and is not WED, and that it has not tried yet:");
        Bench b = new Bench();
        for (int i = 0; i < 6; i++) b.x.person(i, 0, i);
        for (int i = 6; i < 12; i++) b.x.person(i, 1, i - 6);
        due("TOWNS 0 to 5", b.x.days(1), 6);
        for (int i = 0; i < 6; i++) due("those of one TOWN", b.x.personIs(i, 2), i + 6);
        Bench c = Bench.people(3, 4);
        due("three WED", c.x.tried(1, 0), 3);
        for (int i = 0; i < 3; i++) due("by numbers, the lowest one", c.x.tried(1, 10 + i), i + 3);
        c.x.dies(3);
        c.x.dies(0);
        due("that lives", c.x.tried(1, 11), 4);
        due("that lives", c.x.tried(1, 10), -2);
        c.x.weds(2, 4);
        due("that is not WED", c.x.tried(1, 11), 5);
        due("that is not WED", c.x.tried(1, 1), 1);
        Bench d = Bench.people(2, 3);
        d.front(0, 9);
        d.front(1, 9);
        int[] of0 = {0, 1 << 2, 1 << 2 | 1 << 3, 1 << 2 | 1 << 3 | 1 << 4, 1 << 2 | 1 << 3 | 1 << 4};
        for (int day = 0; day < 5; day++) {
            due("one a DAY, not tried yet", d.x.personIs(0, 8), of0[day]);
            due("one a DAY, not tried yet", d.x.personIs(1, 8), of0[day]);
            due("tries", d.x.tried(1, 1), day < 3 ? 2 : 0);
            d.x.days(1);
        }
        Bench zero = new Bench();
        zero.x.person(0, 1, 2);
        zero.x.person(11, 0, 2);
        due("the lowest one is 0", zero.x.tried(1, 21), 0);
        zero.front(0, 1);
        zero.x.days(1);
        due("0 is tried", zero.x.personIs(11, 8), 1);
        due("0 is tried", zero.x.personIs(0, 8), 1 << 11);
        due("all tries", Bench.people(0, 5).x.tried(60, 1), 0);
        due("all tries", Bench.people(5, 0).x.tried(60, 1), 0);
    }

    private static void aTry() {
        says("if they FIT they WED (CREAKS 0 both),");
        Bench b = Bench.people(2, 2);
        b.law("f3(1=1);c10(1=1);b9(1=1);w9(1=1)");
        b.x.weds(0, 2);
        b.x.days(4);
        b.x.dies(2);
        b.front(0, 3);
        due("CREAKS of before", b.x.personIs(0, 3), 4);
        b.x.dies(1);
        b.law("f3(1=1);c0(1=1);b9(1=1);w9(1=1)");
        due("nobody is free", b.x.personIs(3, 2), -2);
        due("they FIT", b.x.days(1), 1);
        due("CREAKS 0", b.x.personIs(0, 3), 0);
        due("CREAKS 0", b.x.personIs(3, 3), 0);
        due("they don't wear", b.x.piece(0, 8), 0);
        says("else all PIECES of both wear by w (99 at most);");
        for (int wear = 88; wear <= 99; wear++) {
            Bench w = Bench.people(1, 1);
            w.edge(0, "9*8");
            w.edge(1, "9*8");
            w.law("w9(1=1)");
            w.x.wear(0, wear);
            due("99 at most", w.x.tried(1, 30), Math.min(99, wear + 9));
            due("the other one", w.x.tried(1, 31), 9);
            due("not WED", w.x.tried(1, 3), 0);
        }
        Bench all = Bench.people(2, 2);
        for (int k = 0; k < 4; k++) all.edge(k, "9*8");
        all.x.weds(0, 2);
        all.x.dies(0);
        all.x.weds(1, 3);
        all.x.dies(3);
        all.x.person(4, 0, 0);
        all.x.wear(0, 98);
        all.x.wear(7, 5);
        all.law("w2+y-x(1=1)");
        int[] wears = {99, 2, 2, 2, 0};
        for (int k = 0; k < 5; k++) due("all PIECES of both", all.x.tried(1, 30 + k), wears[k]);
        due("no others", all.x.tried(1, 37), 5);
        says("they have tried each other either way.");
        all.x.days(1);
        due("they don't FIT", all.x.personIs(1, 8), 1 << 2);
        due("they don't FIT", all.x.personIs(2, 8), 1 << 1 | 1 << 4);
        due("they FIT", all.x.personIs(4, 2), 2);
        due("they FIT", all.x.personIs(4, 8), 1 << 2);
        Bench told = Bench.people(1, 1);
        told.x.weds(0, 1);
        due("WED as told is not tried", told.x.personIs(0, 8), 0);
    }

    private static void draws() {
        says("(3) Each two that are WED, by the lower one's numbers: with a DRAW, below c (s as it is now) both CREAK once more (99 at most);");
        Bench b = new Bench();
        b.x.person(0, 1, 0);
        b.x.person(5, 0, 0);
        b.x.person(1, 0, 0);
        b.x.person(2, 1, 0);
        b.x.weds(1, 2);
        b.x.weds(5, 0);
        b.law("c5(1=1);b9(1=1)");
        b.x.days(1);
        int[] creaks = {1, 0, 0, -1, -1, 1};
        for (int i = 0; i < 6; i++) due("the first DRAW, 2, is theirs of 0; the next one is 7", b.x.personIs(i, 3), creaks[i]);
        due("two DRAWS", b.x.count(6), 61087);
        for (int c = 0; c < 11; c++) {
            Bench one = Bench.people(1, 1);
            one.x.weds(0, 1);
            one.law("b9(1=1);c" + c + "(1=1)");
            one.x.days(1);
            due("2 below " + c, one.x.personIs(0, 3), c > 2 ? 1 : 0);
            due("both", one.x.personIs(1, 3), c > 2 ? 1 : 0);
            due("one DRAW, whatever c is", one.x.count(6), 39022);
        }
        Bench s = Bench.people(1, 1);
        s.front(0, 8);
        s.x.wear(1, 3);
        s.x.weds(0, 1);
        s.law("c10(s=5);b9(s=5)");
        s.x.days(1);
        due("s as it is now", s.x.personIs(0, 3), 1);
        s.x.wear(1, 2);
        s.law("c10(s=5);b9(1=1)");
        s.x.days(1);
        due("s as it is now", s.x.personIs(0, 3), 1);
        Bench none = Bench.people(1, 1);
        none.front(0, 1);
        none.x.days(3);
        due("nobody is WED: no DRAW", none.x.count(6), 1);
        Bench same = Bench.people(1, 1);
        same.law("c10(1=1);b9(1=1)");
        same.x.days(1);
        due("WED on the same DAY", same.x.personIs(0, 3), 1);
    }

    private static void parting() {
        says("then, whether they did or not, with more CREAKS than b they part (they have tried each other).");
        Bench b = Bench.people(1, 1);
        b.law("c10(1=1);b2(1=1)");
        b.x.weds(0, 1);
        int[] wed = {1, 1, -2, -2};
        for (int d = 0; d < 4; d++) {
            b.x.days(1);
            due("CREAKS " + (d + 1), b.x.personIs(0, 2), wed[d]);
        }
        due("tried each other", b.x.personIs(0, 8), 2);
        due("tried each other", b.x.personIs(1, 8), 1);
        due("they FIT still", b.x.slack(0, 1, 1), 1);
        due("nobody to be tried", b.x.tried(60, 1), 0);
        Bench c = Bench.people(1, 1);
        c.law("c10(1=1);b9(1=1)");
        c.x.weds(0, 1);
        c.x.days(3);
        c.law("c0(1=1);b3(1=1)");
        due("3 CREAKS, b 3", c.x.tried(1, 2), 0);
        c.law("c0(1=1);b2(1=1)");
        due("3 CREAKS, b 2, no creak", c.x.tried(1, 2), 1);
        c.law("b3(a<4);c10(1=1)");
        due("a is reckoned with the new one", c.x.tried(1, 2), 1);
    }

    /** An object whose day is so many before the last. */
    private static Bench late(Bench b, int left) {
        for (int d = 0; d < 166; d++) b.x.days(60);
        for (int d = 0; d < 39 - left; d++) b.x.days(1);
        return b;
    }

    private static void lastDay() {
        says("(4) THE DAY is one more (9999 at most: then none goes by).");
        Bench b = late(Bench.people(1, 2), 2);
        due("THE DAY", b.x.count(0), 9997);
        b.x.person(5, 0, 0);
        due("two more: a wedding", b.x.tried(1, 0), 1);
        b.journey(5, "0*9");
        b.front(5, 9);
        due("as many as can", b.x.tried(60, 1), 1);
        due("as many as can", b.x.days(60), 0);
        due("THE DAY", b.x.count(0), 9999);
        due("DAYS left", b.x.personIs(5, 7), 7);
        int x = b.x.count(6);
        String before = b.state();
        due("none goes by", b.x.days(1), 0);
        due("none goes by", b.x.days(60), 0);
        due("none is tried", b.x.tried(60, 3), 1);
        due("none is tried", b.x.tried(60, 15), -2);
        due("no DRAW", b.x.count(6), x);
        b.unchanged("no DAY", before);
        Bench w = late(Bench.people(1, 0), 1);
        due("THE DAY", w.x.count(0), 9998);
        w.x.person(1, 1, 0);
        due("the last one", w.x.days(60), 1);
        due("THE DAY", w.x.count(0), 9999);
        w.law("c10(1=1)");
        due("9999 goes by never", w.x.tried(60, 2), 0);
    }

    private static void drawsThemselves() {
        says("DRAWS: X = (25173 X + 13849) modulo 65536 (X is THE SEED at first, 1): X modulo 10.");
        due("X at first", new Bench().x.count(6), 1);
        for (int seed : new int[] {0, 1, 2, 65534, 65535, 32767, 32768, 13849}) {
            Bench b = Bench.people(1, 1);
            b.x.seed(seed);
            due("X is THE SEED", b.x.count(6), seed);
            b.x.weds(0, 1);
            b.law("b99(1=1);c4(1=1)");
            long x = seed;
            int creaks = 0;
            for (int d = 0; d < 100; d++) {
                x = (25173 * x + 13849) % 65536;
                creaks += x % 10 < 4 ? 1 : 0;
                b.x.days(1);
                due("X", b.x.count(6), (int) x);
                due("X modulo 10", b.x.personIs(0, 3), creaks);
            }
        }
    }

    private static void deaths() {
        says("A PERSON that dies: who is WED to it holds its PIECES from then on, and is not WED any more; who is not WED leaves them to nobody.");
        Bench b = Bench.people(2, 2);
        b.x.weds(0, 2);
        b.x.dies(0);
        due("holds", b.x.personIs(2, 5), 5);
        due("the dead one holds none", b.x.personIs(0, 5), 0);
        due("not WED", b.x.personIs(2, 2), -2);
        due("not WED", b.x.personIs(0, 2), -2);
        due("no two", b.x.count(3), 0);
        due("not tried", b.x.personIs(2, 8), 0);
        b.x.weds(1, 2);
        b.x.dies(2);
        due("holds all that it held", b.x.personIs(1, 5), 7);
        b.x.dies(1);
        for (int k = 0; k < 3; k++) due("left to nobody", b.x.piece(k, 9), -2);
        due("another one's", b.x.piece(3, 9), 3);
        b.x.dies(3);
        due("left to nobody", b.x.piece(3, 9), -2);
        for (int i = 0; i < 4; i++) due("the dead hold none", b.x.personIs(i, 5), 0);
        b.x.person(4, 0, 0);
        due("who is told then has its own alone", b.x.personIs(4, 5), 16);
        Bench p = Bench.people(1, 1);
        p.law("c10(1=1)");
        p.x.weds(0, 1);
        p.x.days(1);
        due("parted", p.x.personIs(0, 2), -2);
        p.x.dies(0);
        due("who has parted is not WED", p.x.piece(0, 9), -2);
    }

    private static void trying() {
        says("TRIED are n DAYS by the DRAWS that will come.");
        Bench b = Bench.people(3, 3);
        b.front(0, 4);
        b.front(4, 5);
        b.law("f3(1=1);w1(1=1);c4(1=1);b1(1=1)");
        for (int i = 0; i < 6; i++) b.journey(i, "1*2,0*3,1,2,3");
        b.x.seed(4711);
        int[] n = {1, 2, 5, 60};
        for (int days : n) {
            String before = b.state();
            int weddings = b.x.tried(days, 0);
            int twos = b.x.tried(days, 3);
            int[] to = new int[6];
            int[] wear = new int[12];
            for (int i = 0; i < 6; i++) to[i] = b.x.tried(days, 10 + i);
            for (int k = 0; k < 12; k++) wear[k] = b.x.tried(days, 30 + k);
            b.unchanged("tried", before);
            b.x.keep();
            due("weddings as they come", b.x.days(days), weddings);
            due("twos as they come", b.x.count(3), twos);
            for (int i = 0; i < 6; i++) due("to whom", b.x.personIs(i, 2), to[i]);
            for (int k = 0; k < 12; k++) due("WEAR", b.x.piece(k, 8), wear[k]);
            b.x.undo();
        }
    }
}
