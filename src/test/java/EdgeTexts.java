/** Sentences of the terms that name edges of a KITCHEN's and a PLAN's text, and of FAULTS. */
final class EdgeTexts {
    private static final String SIXTEEN = "t;t;t;t;t;t;t;t;t;t;t;t;t;t;t;t";

    private EdgeTexts() {
    }

    static void all() {
        howMany();
        items();
        jarItems();
        handItems();
        toolItems();
        plans();
        blanks();
        faultAtTheEnd();
        faultsOfNumbers();
        faultsOfTooMany();
        stepsOfNobody();
    }

    private static void fault(int sort, String text, int want) {
        Edge.due("fault(" + sort + ") of \"" + text + "\"", Check.fault(sort, text), want);
        TightLid lid = new TightLid();
        Check.feed(lid, text);
        Edge.due("text(" + sort + ") of \"" + text + "\" stands", lid.text(sort) != Check.NONE, want == Check.NONE);
    }

    private static void howMany() {
        Edge.says("j (a JAR; 1 .. 4), h (a HAND; 1 .. 6), t (a TOOL; none to 4), in any order");
        Edge.due("one, one, none", counts("j;h"), 110);
        Edge.due("four, six, four", counts("j;j;j;j;h;h;h;h;h;h;t;t;t;t"), 464);
        Edge.due("tools first, jars last", counts("t;t;t;t;h;h;h;h;h;h;j;j;j;j"), 464);
        Edge.due("mixed", counts("h;t;j;t;h;j;h"), 232);
        Edge.due("the second jar told is jar 1", Check.jar(Check.kitchen("h;jv7;t;jv8"), 1, 0), 8);
        Edge.due("the second hand told is hand 1", Check.kitchen("hp7;j;hp8").hand(1, 0), 8);
        Edge.due("the fourth tool told is tool 3", Check.kitchen("t;t;h;t;j;ta7").tool(3, 0), 7);
        fault(0, "h;t", 3);
        fault(0, "j;t", 3);
        fault(0, "j;j;j;j;j;h", 8);
        fault(0, "j;h;h;h;h;h;h;h", 14);
        fault(0, "j;h;t;t;t;t;t", 12);
    }

    private static int counts(String text) {
        TightLid lid = Check.kitchen(text);
        return lid.count(0) * 100 + lid.count(1) * 10 + lid.count(2);
    }

    private static void items() {
        Edge.says("then ITEMS, none or more: a letter, each once at most in a CLAUSE, and a number (one or two digits)");
        fault(0, "j;h", -1);
        fault(0, "jg1w1l0c0s0v0;he0t0w0s1p0;tc0a0", -1);
        fault(0, "jv1v1;h", 3);
        fault(0, "jv1s1v1;h", 5);
        fault(0, "j;hp1e1p1", 7);
        fault(0, "j;h;ta1a1", 7);
        fault(0, "jv1;jv1;hs1;hs1;ta1;ta1", -1);
        fault(0, "jv;h", 2);
        fault(0, "jvs1;h", 2);
        fault(0, "jv1;h", -1);
        fault(0, "jv12;h", -1);
        fault(0, "jv01;h", -1);
        fault(0, "jv123;h", 4);
    }

    private static void jarItems() {
        Edge.says("v VACUUM (0 .. 99; 20 without)");
        item("j", "v", ";h", 0, 99, 20, 0);
        Edge.says("s STUCK (0 .. 99; 10)");
        item("j", "s", ";h", 0, 99, 10, 1);
        Edge.says("c COLD (0 .. 9; 0)");
        item("j", "c", ";h", 0, 9, 0, 2);
        Edge.says("l whether its thread goes LEFT (0, 1; 0)");
        item("j", "l", ";h", 0, 1, 0, 3);
        Edge.says("w how WIDE (1 .. 9; 5)");
        item("j", "w", ";h", 1, 9, 5, 4);
        Edge.says("g what its GLASS bears (1 .. 99; 40)");
        item("j", "g", ";h", 1, 99, 40, 5);
    }

    private static void handItems() {
        Edge.says("p POWER (0 .. 99; 30)");
        item("j;h", "p", "", 0, 99, 30, 0);
        Edge.says("s SIZE (1 .. 9; 5)");
        item("j;h", "s", "", 1, 9, 5, 1);
        Edge.says("w WET (0 .. 9; 0)");
        item("j;h", "w", "", 0, 9, 0, 2);
        Edge.says("t TIRES (0 .. 9; 2)");
        item("j;h", "t", "", 0, 9, 2, 3);
        Edge.says("e SLIP (0 .. 9; 0)");
        item("j;h", "e", "", 0, 9, 0, 4);
    }

    private static void toolItems() {
        Edge.says("a ADDS (0 .. 99; 10)");
        item("j;h;t", "a", "", 0, 99, 10, 0);
        Edge.says("c COST (0 .. 99; 5)");
        item("j;h;t", "c", "", 0, 99, 5, 1);
    }

    /** An item with its least, its most, a number below, numbers above, and without it. */
    private static void item(String ahead, String letter, String behind, int least, int most, int usual, int what) {
        told(ahead, letter + least, behind, what, least);
        told(ahead, letter + "0" + Math.min(9, most), behind, what, Math.min(9, most));
        told(ahead, letter + most, behind, what, most);
        told(ahead, "", behind, what, usual);
        int digit = ahead.length() + 1;
        if (least > 0) {
            fault(0, ahead + letter + "0" + behind, digit);
            fault(0, ahead + letter + "00" + behind, digit + 1);
        }
        if (most < 99) {
            fault(0, ahead + letter + (most + 1) + behind, digit + (most == 9 ? 1 : 0));
            fault(0, ahead + letter + "10" + behind, digit + 1);
            fault(0, ahead + letter + "99" + behind, digit + 1);
        }
        fault(0, ahead + letter + "100" + behind, digit + 2);
    }

    private static void told(String ahead, String item, String behind, int what, int want) {
        TightLid lid = Check.kitchen(ahead + item + behind);
        int got;
        if (ahead.equals("j")) {
            got = Check.jar(lid, 0, what);
        } else {
            got = ahead.equals("j;h") ? lid.hand(0, what) : lid.tool(0, what);
        }
        Edge.due(ahead + item, got, want);
    }

    private static void plans() {
        Edge.says("PLANS (4 at most) are TEXTS: STEPS with ; between, 1 to 16");
        TightLid lid = new TightLid();
        for (int i = 0; i < 4; i++) {
            Edge.due("plan " + i, Check.text(lid, 2, "t"), i);
        }
        Edge.due("a fifth", Check.text(lid, 2, "t"), -1);
        Edge.due("four", lid.count(4), 4);
        fault(2, "", 0);
        fault(2, "t", -1);
        fault(2, "tt", 1);
        fault(2, SIXTEEN, -1);
        fault(2, SIXTEEN + ";t", 31);
        TightLid sixteen = new TightLid();
        Check.text(sixteen, 2, SIXTEEN.substring(0, 30) + "w");
        Edge.due("the sixteenth", sixteen.step(0, 15), 4);
        Edge.due("a seventeenth", sixteen.step(0, 16), -1);
        Edge.says("y and a HAND's digit and a TOOL's (TRY; 9: no TOOL; the side on which the thread goes)");
        TightLid left = Check.kitchen("jv20s10l1;hp30;hp20;ta0;ta0;ta0;ta10");
        Check.text(left, 2, "y09");
        Check.text(left, 2, "y13");
        Edge.due("y09 opens a left one", left.run(0, 0), 1);
        Edge.due("y13 opens it by the last tool", left.run(1, 0), 1);
        Edge.due("hand 9, tool 9", sayStep("y99"), 199);
        Edge.due("hand 0, tool 0", sayStep("y00"), 100);
        fault(2, "y", 1);
        fault(2, "y0", 2);
        fault(2, "y000", 3);
    }

    private static int sayStep(String text) {
        TightLid lid = new TightLid();
        Check.text(lid, 2, text);
        return lid.step(0, 0);
    }

    private static void blanks() {
        Edge.says("Blanks (32) may stand between all signs of these, not within numbers"
                + " (between letters and digits of a STEP they may)");
        fault(0, "  j  v  12  s  3  ;  h  ;  t  a  4  ", -1);
        fault(0, "jv1 2;h", 4);
        fault(0, "jv 12 3;h", 6);
        fault(1, " y : [ p + 12 ] * 3 > 4 & ! ( s = 1 | w < 2 ) ? i / c - a ; y : 1 ", -1);
        fault(1, "y:1 2", 4);
        fault(2, " t ; d 1 ; y 2 9 ; w ", -1);
        fault(2, "d 1 2", 4);
        fault(0, "j;h\t", 3);
        fault(0, "j;h\n", 3);
        fault(0, "j;h" + (char) 31, 3);
        fault(0, "j;h" + (char) 33, 3);
        fault(0, "j;h" + (char) 160, 3);
        Edge.due("a step over blanks", sayStep(" y  2   9 "), 129);
        Edge.due("an item over blanks", Check.jar(Check.kitchen("j v  12 ; h"), 0, 0), 12);
    }

    private static void faultAtTheEnd() {
        Edge.says("FAULT: the first byte at which no such TEXT can go on"
                + " (the length, if it ends too early, without a JAR, a HAND)");
        fault(0, "", 0);
        fault(0, "   ", 3);
        fault(0, "j", 1);
        fault(0, "j  ", 3);
        fault(0, "h", 1);
        fault(0, "j;", 2);
        fault(0, "j;h;", 4);
        fault(0, "j;hp", 4);
        fault(0, "h;t;h", 5);
        fault(0, "x;j", 0);
        fault(0, "j;x;j;j;j;j;j", 2);
        fault(0, "j;h?j??", 3);
        fault(1, "", 0);
        fault(1, "y", 1);
        fault(1, "y:", 2);
        fault(1, "y:p+", 4);
        fault(1, "y:p>", 4);
        fault(1, "y:p>1", 5);
        fault(1, "y:p>1?", 6);
        fault(1, "y:[p", 4);
        fault(1, "y:(p>1", 6);
        fault(1, "y:!", 3);
        fault(1, "y:p;", 4);
        fault(1, "y:p  ;  ", 8);
        fault(2, "  ", 2);
        fault(2, "d", 1);
        fault(2, "y1 ", 3);
        fault(2, "t;", 2);
        twoHundred();
    }

    /** A full tape that ends too early: the length is 200. */
    private static void twoHundred() {
        String blanks = " ".repeat(197);
        fault(0, blanks + "j;h", -1);
        fault(0, blanks + "j; ", 200);
        fault(1, blanks + "y:1", -1);
        fault(1, blanks + "y: ", 200);
        fault(2, blanks + "y09", -1);
        fault(2, blanks + "t; ", 200);
        for (int sort = 0; sort < 3; sort++) {
            fault(sort, blanks + "   ", 200);
        }
    }

    private static void faultsOfNumbers() {
        Edge.says("a number out of bounds is wrong at its last digit");
        fault(0, "jc10;h", 3);
        fault(0, "jw0;h", 2);
        fault(0, "jw00;h", 3);
        fault(0, "jl2;h", 2);
        fault(0, "jl20;h", 3);
        fault(0, "jc10", 3);
        fault(0, "jc10x", 3);
        fault(0, "jc 99 ;h", 4);
        Edge.says("a third digit (whatever stands ahead of it; a fifth one in a LAW) itself");
        fault(0, "jv100;h", 4);
        fault(0, "jv000;h", 4);
        fault(0, "jc999;h", 4);
        fault(0, "jw001;h", 4);
        fault(0, "jl200;h", 4);
        fault(0, "jv1000;h", 4);
        fault(1, "y:9999", -1);
        fault(1, "y:10000", 6);
        fault(1, "y:00000", 6);
        fault(1, "y:p>123456?1", 8);
    }

    private static void faultsOfTooMany() {
        Edge.says("a letter that was there, a fifth j or t, a seventh h");
        fault(0, "jv5s5v5;h", 5);
        fault(0, "jc1 c1;h", 4);
        fault(0, "j;j;j;j; j;h", 9);
        fault(0, "j;j;j;j;h;j", 10);
        fault(0, "j;h;t;t;t;t;t", 12);
        fault(0, "t;t;t;t;t;j;h", 8);
        fault(0, "j;h;h;h;h;h;h;h", 14);
        fault(0, "h;h;h;h;h;h;h;j", 12);
        Edge.says("the ; ahead of a 17th STEP");
        fault(2, SIXTEEN + ";t", 31);
        fault(2, SIXTEEN + "  ;t", 33);
        fault(2, SIXTEEN + ";", 31);
        fault(2, SIXTEEN + " ", -1);
        fault(2, SIXTEEN + "t", 31);
    }

    private static void stepsOfNobody() {
        Edge.says("(A HAND, a TOOL of a STEP that is not there is no FAULT: the STEP does nothing.)");
        fault(2, "d9;y99;y08;y90", -1);
        TightLid lid = Check.kitchen("jv20s10;hp30;t");
        Check.text(lid, 2, "d1;y19;y10;y01;y08;d9;y99");
        String seen = Check.all(lid);
        Edge.due("nothing is done", lid.perform(0), 0);
        Edge.same("nothing changes", Check.all(lid), seen);
        Edge.due("no minutes", lid.run(0, 2), 0);
        Edge.due("not open", lid.run(0, 0), -1);
        Check.text(lid, 2, "d0;y00");
        Edge.due("those that are there do", lid.perform(1), 2);
    }
}
