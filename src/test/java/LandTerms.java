/** The terms of people, pieces, edges and slack, sentence by sentence. */
final class LandTerms extends Sentences {
    static void all() {
        people();
        creaksAndDeath();
        pieces();
        edgeTexts();
        everySign();
        edgeFaults();
        slackOfPieces();
        slackOfPeople();
    }

    private static void people() {
        says("PEOPLE 0 to 11: told or not, each with a PIECE of its number;");
        Bench b = new Bench();
        for (int i : NOBODIES) due("person(" + i + ")", b.x.person(i, 0, 0), false);
        due("nobody is told", b.x.count(1), 0);
        for (int i = 0; i < 12; i++) {
            due("not told", b.x.personIs(i, 5), -1);
            due("person(" + i + ")", b.x.person(i, i & 1, i % 6), true);
            due("its PIECE", b.x.personIs(i, 5), 1 << i);
            due("told", b.x.count(1), (2 << i) - 1);
        }
        says("a SIDE (0, 1),");
        Bench s = new Bench();
        for (int side : new int[] {-1, 2, 3, LEAST, MOST, 256}) due("SIDE " + side, s.x.person(0, side, 0), false);
        due("SIDE 0", s.x.person(0, 0, 0), true);
        due("SIDE 1", s.x.person(1, 1, 0), true);
        due("SIDE 0", s.x.personIs(0, 0), 0);
        due("SIDE 1", s.x.personIs(1, 0), 1);
        says("a TOWN (0 to 5),");
        for (int town : new int[] {-1, 6, 7, LEAST, MOST, 256}) due("TOWN " + town, s.x.person(2, 0, town), false);
        due("TOWN 0", s.x.person(2, 0, 0), true);
        due("TOWN 5", s.x.person(3, 0, 5), true);
        due("TOWN 0", s.x.personIs(2, 1), 0);
        due("TOWN 5", s.x.personIs(3, 1), 5);
        says("WED to another one or not,");
        due("not WED", s.x.personIs(0, 2), -2);
        due("to itself", s.x.weds(0, 0), false);
        due("to itself", s.x.weds(1, 1), false);
        due("weds(0, 1)", s.x.weds(0, 1), true);
        due("WED", s.x.personIs(0, 2), 1);
        due("WED", s.x.personIs(1, 2), 0);
    }

    private static void creaksAndDeath() {
        says("CREAKS (0 to 99),");
        Bench b = Bench.people(1, 1);
        b.law("c10(1=1);b99(1=1)");
        b.x.weds(0, 1);
        due("CREAKS", b.x.personIs(0, 3), 0);
        b.x.days(60);
        b.x.days(38);
        int[] creaks = {98, 99, 99, 99};
        for (int want : creaks) {
            due("CREAKS", b.x.personIs(0, 3), want);
            due("CREAKS", b.x.personIs(1, 3), want);
            b.x.days(1);
        }
        due("WED still", b.x.personIs(0, 2), 1);
        says("dead or not.");
        due("lives", b.x.personIs(0, 4), 1);
        due("those that live", b.x.count(2), 3);
        due("dies", b.x.dies(0), true);
        due("dead", b.x.personIs(0, 4), 0);
        due("those that live", b.x.count(2), 2);
        due("told still", b.x.count(1), 3);
    }

    private static void pieces() {
        says("PIECES 0 to 11: an EDGE: 8 heights (-9 to 9 each; 0 at first),");
        Bench b = new Bench();
        for (int k : NOBODIES) due("piece(" + k + ")", b.x.piece(k, 0), -100);
        for (int k = 0; k < 12; k++) {
            for (int h = 0; h < 8; h++) due("height at first", b.x.piece(k, h), 0);
            edges(b, k, "-9,0*6,9", 18, "10,0*7", -1001, "-10,0*7", -1002);
            due("height 0", b.x.piece(k, 0), -9);
            due("height 7", b.x.piece(k, 7), 9);
        }
        due("no height -1", b.x.piece(0, -1), -100);
        says("WEAR (0 to 99; 0 at first),");
        for (int k = 0; k < 12; k++) {
            due("at first", b.x.piece(k, 8), 0);
            due("wear 99", b.x.wear(k, 99), true);
            due("wear 100", b.x.wear(k, 100), false);
            due("wear -1", b.x.wear(k, -1), false);
            due("WEAR", b.x.piece(k, 8), 99);
        }
        says("a holder: its PERSON at first.");
        for (int k = 0; k < 12; k++) {
            due("not told yet", b.x.piece(k, 9), -2);
            b.x.person(k, 0, 0);
            due("told", b.x.piece(k, 9), k);
        }
        says("THE DAY (0 at first).");
        due("THE DAY", b.x.count(0), 0);
        b.x.days(1);
        due("THE DAY", b.x.count(0), 1);
    }

    private static void edgeTexts() {
        says("AN EDGE: a TEXT of at most 40 bytes:");
        Bench b = new Bench();
        String forty = many("0", ",", 20) + ",";
        b.feed(forty + "0");
        due("41 bytes", b.x.edge(0, 41), -1);
        due("the tape stays", b.x.count(5), 60);
        due("40 bytes are read", b.x.edge(0, 40), -6016);
        due("the tape is empty", b.x.count(5), 0);
        says("8 heights with a , between two: a digit, or - and a digit 1 to 9;");
        edges(b, 0, "0,1,2,3,4,5,6,7", 28, "9,8,7,6,5,4,3,2", 44, "-9,-8,-7,-6,-5,-4,-3,-2", 44, "-1,0,0,0,0,0,0,0", 1, "-0,1*7", -1001,
            "--1,1*7", -1001, "-,1*7", -1001, "+1,1*7", -1000, "10,1*7", -1001, ",1*7", -1000, "1,,1*6", -1002, "1 ,1*7", -1001, "1;1*7", -1001);
        int[] heights = {-1, 0, 0, 0, 0, 0, 0, 0};
        for (int h = 0; h < 8; h++) due("the last right one stands", b.x.piece(0, h), heights[h]);
        says("a height may have * and a digit 2 to 8 behind it: so many times.");
        edges(b, 0, "1*1,1*7", -1002, "1*0,1*8", -1002, "1*9", -1002, "1*:", -1002, "1*-2,1*6", -1002, "1*2*2,1*4", -1003, "1*22", -1003, "*8", -1000,
            "0*8", 0, "1*8", 8, "-9*8", 72, "9*8", 72, "1*2,2*6", 14, "1,2*7", 15, "1*7,2", 9, "1*2,2*2,3*2,-4*2", 20);
        int[] twice = {1, 1, 2, 2, 3, 3, -4, -4};
        for (int h = 0; h < 8; h++) due("so many times", b.x.piece(0, h), twice[h]);
    }

    /** Every sign where a height begins, behind its -, behind a height, behind a *. */
    private static void everySign() {
        says("8 heights with a , between two: a digit, or - and a digit 1 to 9;");
        for (char c = 0; c < 256; c++) {
            Bench b = new Bench();
            boolean digit = c >= '0' && c <= '9';
            due("begins with " + (int) c, b.edge(0, c + ",0*7"), digit ? c - '0' : c == '-' ? -1001 : -1000);
            due("- and " + (int) c, b.edge(0, "-" + c + ",0*7"), digit && c != '0' ? c - '0' : -1001);
            due("begins with " + (int) c + " behind a ,", b.edge(0, "0*7," + c), digit ? c - '0' : c == '-' ? -1005 : -1004);
            due("between two: " + (int) c, b.edge(0, "1" + c + "0*7"), c == ',' ? 1 : c == '*' ? -1002 : -1001);
        }
        says("a height may have * and a digit 2 to 8 behind it: so many times.");
        for (char c = 0; c < 256; c++) {
            int times = c >= '2' && c <= '8' ? c - '0' : 0;
            due("1* and " + (int) c, new Bench().edge(0, "1*" + c), times == 8 ? 8 : times > 0 ? -1003 : -1002);
            due("1*2 and " + (int) c, new Bench().edge(0, "1*2" + c + "1*6"), c == ',' ? 8 : -1003);
        }
    }

    private static void edgeFaults() {
        says("FAULTS: 1 what can't stand there (the end, too; fewer than 8);");
        Bench b = new Bench();
        edges(b, 0, "-1*2,3,0*4,5", 10);
        String before = b.state();
        for (String right : new String[] {"-1*2,3,0*4,5", "9*8", "0,-1,2,-3,4,-5,6,-7"}) {
            for (int n = 1; n < right.length(); n++) {
                due("the end of " + right.substring(0, n), b.edge(0, right.substring(0, n)), -1000 - n);
            }
            for (int p = 0; p < right.length(); p++) {
                Bench each = new Bench();
                for (char c : STRANGE) due("sign " + (int) c + " at " + p, each.edge(0, put(right, p, c)), -1000 - p);
                for (int h = 0; h < 8; h++) due("flat still", each.x.piece(0, h), 0);
            }
        }
        edges(b, 0, "1*7", -1003, "1*7,", -1004, "1*7,-", -1005, "1*8,", -1004, "1*8,,", -1004, "1*8*", -1003, "1*8;", -1003);
        b.unchanged("a FAULT", before);
        says("6 a ninth height, at the first byte of the height by which there are more than 8 (asked when it ends).");
        edges(b, 0, "1*8,1", -6004, "1*8,-1", -6004, "1*8,1*8", -6004, "1*7,1*2", -6004, "1*7,-1*2", -6004, "1*7,1*8", -6004, "1,2,3,4,5,6,7,8,9", -6016,
            "1*5,1*4", -6004, "1*4,2*4,3*4", -6008);
        edges(b, 0, "1*8,12", -6004, "1*8,1x", -6004, "1*8,1,x", -6004, "1*8,1,", -6004, "1*8,1*2*", -6004);
        edges(b, 0, "1*8,x", -1004, "1*8,-0", -1005, "1*8,1*9", -1006, "1*8,1*1", -1006, "1*8,1*", -1006, "1*8,-", -1005);
        b.unchanged("a FAULT", before);
    }

    private static void slackOfPieces() {
        says("SLACK of two PIECES: the sum, over k from 0 to 7, of the amount of height k of the one and height 7 - k of the other one together;");
        Bench b = Bench.people(1, 1);
        due("flat ones", b.x.slack(0, 1, 0), 0);
        for (int k = 0; k < 8; k++) {
            b = Bench.people(1, 1);
            for (int m = 0; m < 8; m++) {
                b.edge(0, put("0,0,0,0,0,0,0,0", 2 * k, '5'));
                b.edge(1, put("0,0,0,0,0,0,0,0", 2 * m, '-').substring(0, 2 * m + 1) + "5" + "0,0,0,0,0,0,0,0".substring(2 * m + 1));
                due("5 at " + k + ", -5 at " + m, b.x.slack(0, 1, 0), k + m == 7 ? 0 : 10);
                due("either way", b.x.slack(1, 0, 0), k + m == 7 ? 0 : 10);
            }
        }
        b.edge(0, "9*8");
        b.edge(1, "9*8");
        due("the most", b.x.slack(0, 1, 0), 144);
        b.edge(1, "-9*8");
        due("opposite", b.x.slack(0, 1, 0), 0);
        b.edge(0, "-9*8");
        due("the most, below", b.x.slack(0, 1, 0), 144);
        says("less the WEAR of both (0 at least).");
        b.edge(0, "9,0*7");
        b.edge(1, "9,0*7");
        int[][] wears = {{0, 0, 18}, {17, 0, 1}, {18, 0, 0}, {0, 17, 1}, {0, 18, 0}, {0, 19, 0}, {9, 8, 1}, {9, 9, 0}, {9, 10, 0}, {99, 99, 0}};
        for (int[] w : wears) {
            b.x.wear(0, w[0]);
            b.x.wear(1, w[1]);
            due("WEAR " + w[0] + " and " + w[1], b.x.slack(0, 1, 0), w[2]);
        }
    }

    private static void slackOfPeople() {
        says("Of two PEOPLE: the least, over PIECES that they hold.");
        Bench b = Bench.people(2, 2);
        b.edge(2, "9,0*7");
        b.edge(3, "0*7,-9");
        b.edge(1, "0*7,4");
        due("one PIECE each", b.x.slack(0, 3, 0), 9);
        due("a PIECE of another one", b.x.slack(2, 3, 0), 0);
        b.x.weds(0, 2);
        due("WED, it is not its own", b.x.slack(0, 3, 0), 9);
        b.x.dies(2);
        due("a widow's other PIECE", b.x.slack(0, 3, 0), 0);
        due("either way", b.x.slack(3, 0, 0), 0);
        due("a widow's first PIECE", b.x.slack(0, 1, 0), 4);
        b.x.weds(1, 3);
        b.x.dies(1);
        due("two PIECES and two", b.x.slack(0, 3, 0), 0);
        b.edge(3, "9*8");
        due("the lowest of 4", b.x.slack(0, 3, 0), 4);
        b.x.wear(2, 10);
        due("the lowest of 4, worn", b.x.slack(0, 3, 0), 3);
        says("They FIT, if it is not above f.");
        Bench f = Bench.people(1, 1);
        f.edge(0, "5,0*7");
        f.law("f5(1=1)");
        due("f as it is", f.x.slack(0, 1, 1), 1);
        f.law("f4(1=1)");
        due("f 1 below it", f.x.slack(0, 1, 1), 0);
        f.law("f6(1=1)");
        due("f 1 above it", f.x.slack(0, 1, 1), 1);
        f.x.wear(0, 5);
        f.law("f0(1=1)");
        due("0 and 0", f.x.slack(0, 1, 1), 1);
        f.x.wear(0, 4);
        due("1 and 0", f.x.slack(0, 1, 1), 0);
    }
}
