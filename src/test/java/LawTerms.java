/** The terms of the law, sentence by sentence. */
final class LawTerms extends Sentences {
    static void all() {
        lawTexts();
        clauses();
        firstThatHolds();
        allowance();
        liking();
        wearing();
        creaking();
        bearing();
        partsAndTests();
        reckoning();
        factors();
        everySign();
        whoIsFirst();
        otherLetters();
        thirtyTwoBits();
        refused();
        asMuchAsMatters();
        faults();
        sixthDigit();
        seventeenth();
        openOnes();
    }

    /** Whether a C holds for 0, who likes, and 1. */
    private static void holds(Bench b, String c, boolean want) {
        due("law of " + c, b.law("l7(" + c + ")"), 1);
        due(c, b.x.slack(0, 1, 2), want ? 7 : 0);
    }

    private static void holds(Bench b, String c) {
        holds(b, c, true);
    }

    private static void fails(Bench b, String c) {
        holds(b, c, false);
    }

    private static void likes(Bench b, String law, int want) {
        due("a right law " + law, b.law(law) > 0, true);
        due(law, b.x.slack(0, 1, 2), want);
    }

    private static void lawTexts() {
        says("THE LAW: a TEXT of at most 240 bytes, no blanks (none at first):");
        Bench b = Bench.people(1, 1);
        due("none at first", b.x.count(4), 0);
        due("none at first, f 0", b.x.slack(0, 1, 1), 1);
        b.x.wear(0, 3);
        b.front(0, 4);
        due("none at first, f 0", b.x.slack(0, 1, 1), 0);
        due("none at first, l 0", b.x.slack(0, 1, 2), 0);
        String whole = "l5(1=1|" + many("1=1", "|", 58) + ")";
        due("the text's length", whole.length(), 239);
        due("239 bytes", b.law(whole), 1);
        due("240 bytes", b.law(whole.replace("l5", "l25")), 1);
        due("240 bytes are THE LAW", b.x.slack(0, 1, 2), 25);
        b.feed(whole.replace("l5", "l125"));
        due("241 bytes", b.x.law(241), -1);
        due("the tape stays", b.x.count(5), 260);
        due("240 of them", b.x.law(240), -1240);
        laws(b, " l5(1=1)", -1000, "l 5(1=1)", -1001, "l5 (1=1)", -1002, "l5( 1=1)", -1003, "l5(1 =1)", -1004, "l5(1= 1)", -1005, "l5(1=1 )", -1006,
            "l5(1=1) ", -1007, "l5(1=1); l5(1=1)", -1008);
        due("THE LAW stays", b.x.slack(0, 1, 2), 25);
    }

    private static void clauses() {
        says("CLAUSES (16 at most) with a ; (59) between two: a letter, E, and (C):");
        Bench b = Bench.people(1, 1);
        String fifteen = many("f0(1=2)", ";", 15);
        due("one", b.law("l4(1=1)"), 1);
        due("15", b.law(fifteen), 15);
        due("16", b.law(fifteen + ";l8(1=1)"), 16);
        due("the 16th counts", b.x.slack(0, 1, 2), 8);
        due("17", b.law(fifteen + ";l8(1=1);l9(1=1)"), -4128);
        due("CLAUSES", b.x.count(4), 16);
        due("the 16th counts still", b.x.slack(0, 1, 2), 8);
        for (char c = 0; c < 256; c++) {
            Bench each = new Bench();
            due("between two: " + (int) c, each.law("f1(1=1)" + c + "l3(1=1)"), c == 59 ? 2 : -1007);
            boolean letter = "flwcb".indexOf(c) >= 0;
            due("letter " + (int) c, each.law(c + "1(1=1)"), letter ? 1 : -1000);
        }
        laws(b, ";f1(1=1)", -1000, "f1(1=1);", -1008, "f1(1=1);;f1(1=1)", -1008, "f(1=1)", -1001, "f1", -1002, "f1()", -1003, "f1(1)", -1004,
            "f1(1=1", -1006, "f1(1=1))", -1007, "f1[1=1]", -1002, "1f(1=1)", -1000, "(1=1)f1", -1000);
    }

    private static void firstThatHolds() {
        says("of the first one of a letter whose C holds the E (beyond its bounds the bound; none: 0):");
        Bench b = Bench.people(1, 1);
        likes(b, "l3(1=1);l4(1=1)", 3);
        likes(b, "l3(1=2);l4(1=1);l5(1=1)", 4);
        likes(b, "f9(1=1);w8(1=1);l2(1=1)", 2);
        likes(b, "l0(1=1);l4(1=1)", 0);
        likes(b, "l3(1=2);l4(1=2)", 0);
        likes(b, "f3(1=1)", 0);
        likes(b, "l0-1(1=1);l4(1=1)", 0);
        likes(b, "l100(1=1);l4(1=1)", 99);
    }

    private static void allowance() {
        says("f what slack is allowed (0 to 99),");
        Bench b = Bench.people(1, 1);
        b.edge(0, "9*8");
        b.edge(1, "9*8");
        b.x.wear(0, 44);
        due("slack", b.x.slack(0, 1, 0), 100);
        for (String e : new String[] {"98", "99", "100", "99999"}) {
            b.law("f" + e + "(1=1)");
            b.x.wear(0, 44);
            due("slack 100, f" + e, b.x.slack(0, 1, 1), 0);
            b.x.wear(0, 45);
            due("slack 99, f" + e, b.x.slack(0, 1, 1), e.equals("98") ? 0 : 1);
        }
        b.x.wear(0, 99);
        for (String e : new String[] {"0", "0-1", "1", "0-99999"}) {
            b.law("f" + e + "(1=1)");
            b.x.wear(1, 44);
            due("slack 1, f" + e, b.x.slack(0, 1, 1), e.equals("1") ? 1 : 0);
            b.x.wear(1, 45);
            due("slack 0, f" + e, b.x.slack(0, 1, 1), 1);
        }
    }

    private static void liking() {
        says("l how one likes another one (0 to 99),");
        Bench b = Bench.people(1, 1);
        likes(b, "l98(1=1)", 98);
        likes(b, "l99(1=1)", 99);
        likes(b, "l100(1=1)", 99);
        likes(b, "l99999(1=1)", 99);
        likes(b, "l0(1=1)", 0);
        likes(b, "l1(1=1)", 1);
        likes(b, "l0-1(1=1)", 0);
        likes(b, "l0-99999(1=1)", 0);
    }

    private static void wearing() {
        says("w by how much both PIECES wear by a try (0 to 9),");
        String[] es = {"0", "1", "8", "9", "10", "99999", "0-1"};
        int[] by = {0, 1, 8, 9, 9, 9, 0};
        for (int t = 0; t < es.length; t++) {
            Bench b = Bench.people(1, 1);
            b.edge(0, "9*8");
            b.law("w" + es[t] + "(1=1)");
            b.x.wear(1, 3);
            due("w" + es[t], b.x.tried(1, 30), by[t]);
            due("w" + es[t], b.x.tried(1, 31), 3 + by[t]);
            due("w" + es[t], b.x.worn(0, 1), by[t] == 0 ? -2 : (69 + 2 * by[t] - 1) / (2 * by[t]));
        }
    }

    private static void creaking() {
        says("c tenths that they creak in a DAY (0 to 10),");
        String[] es = {"0", "0-1", "1", "5", "9", "10", "11", "99999"};
        int[] tenths = {0, 0, 1, 5, 9, 10, 10, 10};
        for (int t = 0; t < es.length; t++) {
            Bench b = Bench.people(1, 1);
            b.law("c" + es[t] + "(1=1);b99(1=1)");
            b.x.weds(0, 1);
            int creaks = 0;
            for (int d = 0; d < 50; d++) {
                b.x.days(1);
                creaks += b.x.count(6) % 10 < tenths[t] ? 1 : 0;
                due("c" + es[t], b.x.personIs(1, 3), creaks);
            }
        }
    }

    private static void bearing() {
        says("b how many CREAKS they bear (0 to 99).");
        Bench b = Bench.people(1, 1);
        for (String e : new String[] {"0", "0-1", "0-99999"}) {
            b.law("c0(1=1);b" + e + "(1=1)");
            b.x.weds(0, 1);
            b.x.days(5);
            due("0 CREAKS, b" + e, b.x.personIs(0, 2), 1);
        }
        for (String e : new String[] {"0", "0-1", "1", "2"}) {
            b.law("c10(1=1);b" + e + "(1=1)");
            due("1 CREAK, b" + e, b.x.tried(1, 3), e.charAt(0) == '0' ? 0 : 1);
            due("2 CREAKS, b" + e, b.x.tried(2, 3), e.equals("2") ? 1 : 0);
        }
        b.law("c10(1=1);b100(1=1)");
        b.x.days(60);
        b.x.days(60);
        due("99 CREAKS, b 99", b.x.personIs(0, 2), 1);
        b.law("b99(1=1)");
        due("99 CREAKS, b 99", b.x.tried(1, 3), 1);
        b.law("b98(1=1)");
        due("99 CREAKS, b 98", b.x.tried(1, 3), 0);
    }

    private static void partsAndTests() {
        Bench b = Bench.people(1, 1);
        says("C: PARTS with a | between two, one of which must hold;");
        holds(b, "1=1");
        fails(b, "1=2");
        holds(b, "1=1|1=2");
        holds(b, "1=2|1=1");
        fails(b, "1=2|1=2");
        holds(b, "1=2|1=2|1=2|1=1");
        fails(b, "1=2|1=2|1=2|1=2");
        says("a PART: TESTS with an & between two, all of which must;");
        holds(b, "1=1&1=1");
        fails(b, "1=1&1=2");
        fails(b, "1=2&1=1");
        holds(b, "1=1&1=1&1=1&1=1");
        fails(b, "1=1&1=1&1=1&1=2");
        holds(b, "1=2&1=1|1=1");
        holds(b, "1=1|1=1&1=2");
        fails(b, "1=2|1=1&1=2");
        says("a TEST: !TEST, (C), or E, one of < > =, and E.");
        holds(b, "!1=2");
        fails(b, "!1=1");
        holds(b, "!!1=1");
        fails(b, "!!!1=1");
        fails(b, "!(1=2|1=1)");
        holds(b, "!1=1|1=1");
        fails(b, "!1=2&1=2");
        holds(b, "(1=2|1=1)&(1=1)");
        fails(b, "(1=1|1=1)&1=2");
        String[] lefts = {"1", "2", "3"};
        for (String l : lefts) {
            holds(b, l + "<2", l.equals("1"));
            holds(b, l + "=2", l.equals("2"));
            holds(b, l + ">2", l.equals("3"));
        }
        laws(b, "l1(1<=2)", -1005, "l1(1==1)", -1005, "l1(1!=1)", -1004, "l1(1<2<3)", -1006, "l1(1&1=1)", -1004, "l1(!)", -1004, "l1(())", -1004);
    }

    private static void reckoning() {
        says("E: TERMS with + or - between two; a TERM: FACTORS with one of * / % between two; from the left on;");
        Bench b = Bench.people(1, 1);
        String[] same = {"9-3-2=4", "9-3+2=8", "2+3*4=14", "2*3+4=10", "20/3*3=18", "3*20/3=20", "17%5*2=4", "2*17%5=4", "100/10/5=2", "2*3%4=2",
            "20/6%2=1", "9-[3-2]=8", "20/[6%4]=10", "[2+3]*4=20", "7/2=3", "[0-7]/2=0-3", "7/[0-2]=0-3", "[0-7]%2=0-1", "7%[0-2]=1", "0/5=0",
            "1-2*3-4=0-9", "5%5=0", "4%5=4", "1-1=0", "1-2<0"};
        for (String c : same) holds(b, c);
        laws(b, "l1(-1=1)", -1003, "l1(1=-1)", -1005, "l1(1+-1=0)", -1005, "l1(1+=1)", -1005, "l1(*1=1)", -1003, "l1(1**1=1)", -1005, "l-1(1=1)", -1001);
    }

    private static void factors() {
        says("a FACTOR: [E], a number of one to five digits, or a letter:");
        Bench b = Bench.people(1, 1);
        holds(b, "0=00000");
        holds(b, "9=00009");
        holds(b, "99999=99998+1");
        holds(b, "99999>99998");
        holds(b, "[[9]]=9");
        likes(b, "l00098(1=1)", 98);
        laws(b, "l00098(1=1)", 1, "l000098(1=1)", -2006, "l1(100000=1)", -2008, "l1(10000=1)", 1, "l1([]=1)", -1004, "l1([1=1)", -1005, "l1(1]=1)", -1004);
        for (char c = 'a'; c <= 'z'; c++) {
            boolean letter = "ijsxyuvdapq".indexOf(c) >= 0;
            due("letter " + c, b.law("l1(" + c + "=1)"), letter ? 1 : -1003);
            due("letter " + c, b.law("l" + c + "(1=1)"), letter ? 1 : -1001);
        }
        laws(b, "l1(ij=1)", -1004, "l1(1i=1)", -1004, "l1(i1=1)", -1004, "l1(I=1)", -1003);
    }

    /** Every sign where an E begins, behind a number, between the two E of a TEST, behind a TEST. */
    private static void everySign() {
        says("a FACTOR: [E], a number of one to five digits, or a letter:");
        for (char c = 0; c < 256; c++) {
            Bench b = new Bench();
            boolean digit = c >= '0' && c <= '9';
            boolean factor = digit || "ijsxyuvdapq".indexOf(c) >= 0;
            due("an E begins with " + (int) c, b.law("l" + c + "(1=1)"), factor ? 1 : c == '[' ? -1002 : -1001);
            due("a TEST begins with " + (int) c, b.law("l1(" + c + "=1)"), factor ? 1 : c == '[' || c == '!' || c == '(' ? -1004 : -1003);
            due("behind a * stands " + (int) c, b.law("l1(1*" + c + "=1)"), factor ? 1 : c == '[' ? -1006 : -1005);
            due("behind a number stands " + (int) c, b.law("l1(1" + c + "1=1)"), digit || "+-*/%".indexOf(c) >= 0 ? 1 : "<>=".indexOf(c) >= 0 ? -1006 : -1004);
            due("behind a TEST stands " + (int) c, b.law("l1(1=1" + c + "1=1)"), "&|".indexOf(c) >= 0 ? 1 : c == ')' ? -1007
                : digit || "+-*/%".indexOf(c) >= 0 ? -1008 : -1006);
        }
    }

    private static void whoIsFirst() {
        says("i, j the two PEOPLE (of the WED the lower one first; in f, and in w of two that are not WED, the one of SIDE 0 first, "
            + "of one SIDE the lower one; in l the one that likes first),");
        Bench b = new Bench();
        b.x.person(3, 1, 0);
        b.x.person(7, 0, 0);
        b.x.person(11, 1, 1);
        b.front(3, 5);
        b.law("f9(i=7&j=3)");
        due("f: SIDE 0 first", b.x.slack(3, 7, 1), 1);
        due("f: SIDE 0 first", b.x.slack(7, 3, 1), 1);
        b.law("f9(i=3&j=7)");
        due("f: SIDE 0 first", b.x.slack(3, 7, 1), 0);
        b.law("f9(i=3&j=11)");
        due("f: of one SIDE the lower one", b.x.slack(3, 11, 1), 1);
        due("f: of one SIDE the lower one", b.x.slack(11, 3, 1), 1);
        b.law("f9(i=11)");
        due("f: of one SIDE the lower one", b.x.slack(11, 3, 1), 0);
        b.law("w1(i=7&j=3)");
        due("w: SIDE 0 first", b.x.worn(3, 7), 3);
        due("w: SIDE 0 first", b.x.tried(1, 37), 1);
        due("w: SIDE 0 first", b.x.tried(1, 33), 1);
        b.law("l1(i=3&j=7);l2(i=7&j=3);l3(i=3&j=11);l4(i=11&j=3)");
        int[][] likings = {{3, 7, 1}, {7, 3, 2}, {3, 11, 3}, {11, 3, 4}};
        for (int[] l : likings) due("l: the one that likes first", b.x.slack(l[0], l[1], 2), l[2]);
        b.x.weds(7, 3);
        due("l: the one that likes first, WED", b.x.slack(7, 3, 2), 2);
        b.law("c10(i=3&j=7);b9(i=3&j=7);w1(i=3&j=7);f1(i=7&j=3)");
        due("c: of the WED the lower one first", b.x.days(1), 0);
        due("c: of the WED the lower one first", b.x.personIs(7, 3), 1);
        due("b: of the WED the lower one first", b.x.personIs(7, 2), 3);
        due("w: of the WED the lower one first", b.x.worn(7, 3), 2);
        due("w: of the WED the lower one first", b.x.worn(3, 7), 2);
        due("w of two that are not WED", b.x.worn(11, 7), 0);
        b.law("c10(i=7);b9(i=7)");
        b.x.days(1);
        due("b: of the WED the lower one first", b.x.personIs(7, 2), -2);
        due("c: of the WED the lower one first", b.x.personIs(7, 3), 1);
    }

    private static void otherLetters() {
        Bench b = new Bench();
        b.x.person(0, 0, 5);
        b.x.person(1, 1, 4);
        b.x.person(2, 1, 3);
        b.front(0, 6);
        says("s their SLACK (in f 0),");
        due("slack", b.x.slack(0, 1, 0), 6);
        b.law("f6(s=0);l9(s=6);w2(s=6)");
        due("f", b.x.slack(0, 1, 1), 1);
        due("l", b.x.slack(0, 1, 2), 9);
        b.law("f0(1=1);w2(s=6)");
        due("w", b.x.worn(0, 1), 2);
        b.law("f6(s=6)");
        due("f", b.x.slack(0, 1, 1), 0);
        b.x.weds(0, 2);
        b.law("c10(s=6);b9(s=6)");
        b.x.days(1);
        due("c and b", b.x.personIs(0, 3), 1);
        due("c and b", b.x.personIs(0, 2), 2);
        says("x, y how many PIECES they hold, u, v their TOWNS, d THE DAY, a CREAKS of i, p, q their SIDES.");
        holds(b, "x=1&y=1&u=5&v=4&d=1&a=1&p=0&q=1");
        b.law("l7(i=1&x=1&y=1&u=4&v=5&d=1&a=0&p=1&q=0)");
        due("the other one first", b.x.slack(1, 0, 2), 7);
        b.x.dies(2);
        holds(b, "x=2&y=1");
        b.law("l7(x=1&y=2)");
        due("the other one first", b.x.slack(1, 0, 2), 7);
        says("(Where they are not told they are 0.)");
        Bench n = Bench.people(1, 1);
        holds(n, "s=0&u=0&v=0&d=0&a=0&p=0");
        n.front(0, 3);
        n.law("f9(s+a=0);l9(a=0)");
        due("CREAKS of one never WED", n.x.slack(0, 1, 2), 9);
        due("s in f", n.x.slack(0, 1, 1), 1);
        due("one that is not told is no such one", n.x.slack(0, 2, 2), -1);
    }

    private static void thirtyTwoBits() {
        says("All is reckoned with 32 bits, as the machine does;");
        Bench b = Bench.people(1, 1);
        holds(b, "32768*65535>0");
        holds(b, "32768*65536<0");
        holds(b, "32768*65536-1>0");
        holds(b, "32768*65536-1+1<0");
        holds(b, "65536*65536=0");
        holds(b, "99999*99999/[10*10000]=14098");
        holds(b, "99999*99999%[10*10000]=65409");
        holds(b, "32768*65536/[0-1]=32768*65536");
        holds(b, "32768*65536%[0-1]=0");
        holds(b, "0-32768*65536=32768*65536");
        holds(b, "32768*65536<32768*65536-1");
        likes(b, "l32768*65536(1=1)", 0);
        likes(b, "l32768*65536-1(1=1)", 99);
    }

    private static void refused() {
        says("what is divided by 0 is REFUSED: then the C as a whole does not hold (through any !, ( ) and |), an E is 0.");
        Bench b = Bench.people(1, 1);
        for (String c : new String[] {"1/0=0", "1%0=0", "0/0=0", "0%0=0", "1=1/0", "!1/0=1", "!!1/0=0", "(1/0=0)|1=1", "1/0=0|1=1", "1=1&1/0=0|1=1",
            "!(1=2|1/0=0)", "!(!(1/0=0))", "[1/0]*0=0", "1/d=0", "1/[1-1]=0", "1/[65536*65536]=0", "1/0<0|1/0=0|1/0>0", "(1=2|(1=1&1%0=0))|1=1"}) {
            fails(b, c);
        }
        likes(b, "l5/0(1=1);l9(1=1)", 0);
        likes(b, "l9+5%0(1=1)", 0);
        likes(b, "l9+5*[3/d](1=1)", 0);
        likes(b, "l5(1/0=0);l9(1=1)", 9);
        likes(b, "l7(1=1);l5/0(1/0=0)", 7);
        likes(b, "l5/0(1=2);l7(1=1)", 7);
        likes(b, "f5/0(1=1);l7(1=1);w5/0(1=1)", 7);
        b.front(0, 1);
        b.law("f9/0(1=1);w9/0(1=1)");
        due("an f is 0", b.x.slack(0, 1, 1), 0);
        due("a w is 0", b.x.worn(0, 1), -2);
        b.law("c9/0(1=1);b9/0(1=1)");
        b.x.weds(0, 1);
        b.x.days(9);
        due("a c is 0", b.x.personIs(0, 3), 0);
        b.law("c10(1=1);b9/0(1=1)");
        b.x.days(1);
        due("a b is 0", b.x.personIs(0, 2), -2);
    }

    private static void asMuchAsMatters() {
        says("Of a C as much is asked, from the left, as matters.");
        Bench b = Bench.people(1, 1);
        for (String c : new String[] {"1=1|1/0=0", "1=2&1/0=0|1=1", "(1=1|1/0=0)&1=1", "!(1=2&1/0=0)", "1=1|1/0=0|1/0=0", "1=2|1=1|1/0=0",
            "1=2&1/0=0&1/0=0|1=1", "(1=2&(1/0=0|1=1))|1=1", "!(1=1&1=2&1/0=0)", "1=1&1=1|1/0=0"}) {
            holds(b, c);
        }
        for (String c : new String[] {"1=2|1/0=0|1=1", "1=1&1/0=0|1=1", "1/0=0&1=2|1=1", "(1=2|1/0=0)|1=1", "1=2&1/0=0"}) fails(b, c);
    }

    private static void faults() {
        says("FAULTS, the first from the left: 1 what can't stand there (the end, too);");
        Bench b = Bench.people(1, 1);
        String right = "l[1]-2(!(i<2)&3>s|j=9%4);f10(1=1)";
        due("a right one", b.law(right), 2);
        int clause = right.indexOf(';');
        for (int n = 1; n < right.length(); n++) {
            if (n != clause) due("the end of " + right.substring(0, n), b.law(right.substring(0, n)), -1000 - n);
        }
        for (int p = 0; p < right.length(); p++) {
            Bench each = new Bench();
            for (char c : STRANGE) due("sign " + (int) c + " at " + p, each.law(put(right, p, c)), -1000 - p);
        }
        laws(b, "l1#(123456=1)", -1002, "l1(123456=1)#", -2008, "l123456(#=1)", -2006, "f1(1=1)" + many(";f1(#=1)", "", 16), -1011);
        due("a FAULT changes nothing", b.x.count(4), 2);
    }

    private static void sixthDigit() {
        says("2 a sixth digit, at it;");
        Bench b = Bench.people(1, 1);
        laws(b, "l12345(1=1)", 1, "l123456(1=1)", -2006, "l1234567(1=1)", -2006, "l123456", -2006, "l12345", -1006, "l1(1=12345)", 1, "l1(1=123456)", -2010,
            "l1(000000=0)", -2008, "l1(00000=0)", 1, "l1([99999*99999]=123456)", -2022, "l1(1=1);f123456(1=1)", -2014, "l12345x(1=1)", -1006);
    }

    private static void seventeenth() {
        says("4 a 17th CLAUSE, at its letter (if that can stand there);");
        Bench b = Bench.people(1, 1);
        String sixteen = many("w5(d=0)", ";", 16);
        for (char c : "flwcb".toCharArray()) due("17th " + c, b.law(sixteen + ";" + c), -4128);
        for (char c : "iIdF0(;! ".toCharArray()) due("17th " + c, b.law(sixteen + ";" + c), -1128);
        laws(b, sixteen, 16, sixteen + ";", -1128, sixteen + ";w5(d=0)", -4128, sixteen + ";w5(d=0);w5(d=0)", -4128, sixteen + ";w123456", -4128);
    }

    private static void openOnes() {
        says("5 a seventh of ( [ ! that are open in one another, at it (the ( of the CLAUSE counts; a ! is open till its TEST ends; "
            + "the E of a CLAUSE stands ahead of it).");
        Bench b = Bench.people(1, 1);
        laws(b, "l1((((((1=1))))))", 1, "l1(((((((1=1)))))))", -5008, "l1(!!!!!1=1)", 1, "l1(!!!!!!1=1)", -5008, "l1([[[[[1]]]]]=1)", 1,
            "l1([[[[[[1]]]]]]=1)", -5008, "l1(1=[[[[[1]]]]])", 1, "l1(1=[[[[[[1]]]]]])", -5010);
        laws(b, "l1(!(!(!1=1)))", 1, "l1(!(!(![1]=1)))", -5008, "l1(!(!(!1=[1])))", -5010, "l1(!!!!(1=1))", 1, "l1(!!!!([1]=1))", -5008,
            "l1(!!!!!(1=1))", -5008, "l1(((((![1]=1)))))", -5008, "l1((((([1]=1)))))", 1);
        laws(b, "l1(!!!!!1=1&!!!!!1=1)", 1, "l1(!!!!!1=1&!!!!!!1=1)", -5017, "l1(!!!!!1=1|[[[[[1]]]]]=1)", 1, "l1(!1=1&(((((1=1))))))", 1,
            "l1(((1=1))|(((((1=1))))))", 1, "l1([[[1]]]*[[[[[1]]]]]=1)", 1, "l1(!(1=1)&!!!!!1=1)", 1, "l1(!!!!1=[1])", 1, "l1(!!!!!1=[1])", -5010);
        laws(b, "l[[[[[[1]]]]]](1=1)", 1, "l[[[[[[[1]]]]]]](1=1)", -5007, "l[[[[[[1]]]]]](((((([1]=1))))))", -5020, "l[[[[[[1]]]]]]((((((1=1))))))", 1,
            "l[[[[[[1]]]]]]+[[[[[[1]]]]]]((((((1=1))))))", 1, "l1((((((1=1))))));f[[[[[[1]]]]]]((((((1=1))))))", 2);
        laws(b, "l1((((((", -1008, "l1(((((((", -5008, "l1((((((]", -1008, "l1(1(", -1004, "l1(1[", -1004, "l1(1=(1)", -1005);
    }
}
