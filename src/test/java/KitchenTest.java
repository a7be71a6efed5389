/** Promises 6 to 9, 11, 12, 37, 38: jar, hand, tool, law, grip, lacks, who, lefties. */
public final class KitchenTest {
    private static final String TEXT = "jv50s30c4l1w8g60;j;hp40s6w2t3e1;h;hp7s9;ta15c8;t";

    public static void main(String[] args) {
        toldNumbers();
        laws();
        worths();
        longWorths();
        plainGrips();
        lacking();
        whoAndLefties();
        Check.end();
    }

    private static void row(String what, int[] got, int... want) {
        for (int i = 0; i < want.length; i++) {
            Check.due(what + " " + i, got[i], want[i]);
        }
    }

    private static int[] jarOf(TightLid lid, int jar) {
        int[] row = new int[11];
        for (int what = 0; what < row.length; what++) {
            row[what] = Check.jar(lid, jar, what);
        }
        return row;
    }

    private static int[] handOf(TightLid lid, int hand) {
        int[] row = new int[7];
        for (int what = 0; what < row.length; what++) {
            row[what] = lid.hand(hand, what);
        }
        return row;
    }

    private static void toldNumbers() {
        TightLid lid = Check.kitchen(TEXT);
        row("jar 0", jarOf(lid, 0), 50, 30, 4, 1, 8, 60, 0, 0, 0, 0, 88);
        row("jar 1", jarOf(lid, 1), 20, 10, 0, 0, 5, 40, 0, 0, 0, 0, 30);
        row("hand 0", handOf(lid, 0), 40, 6, 2, 3, 1, 40, 0);
        row("hand 1", handOf(lid, 1), 30, 5, 0, 2, 0, 30, 0);
        row("hand 2", handOf(lid, 2), 7, 9, 0, 2, 0, 7, 0);
        Check.due("tool(0, 0)", lid.tool(0, 0), 15);
        Check.due("tool(0, 1)", lid.tool(0, 1), 8);
        Check.due("tool(1, 0)", lid.tool(1, 0), 10);
        Check.due("tool(1, 1)", lid.tool(1, 1), 5);
        Check.due("tool(2, 0)", lid.tool(2, 0), -1);
        Check.due("tool(-1, 0)", lid.tool(-1, 0), -1);
        Check.due("tool(0, 2)", lid.tool(0, 2), -1);
        Check.due("tool(0, -1)", lid.tool(0, -1), -1);
        Check.due("jar(2, 0)", Check.jar(lid, 2, 0), Check.THROWN);
        Check.due("jar(-1, 0)", Check.jar(lid, -1, 0), Check.THROWN);
        Check.due("jar(0, 11)", Check.jar(lid, 0, 11), Check.THROWN);
        Check.due("jar(0, -1)", Check.jar(lid, 0, -1), Check.THROWN);
        Check.due("hand(3, 0)", lid.hand(3, 0), -1);
        Check.due("hand(-1, 0)", lid.hand(-1, 0), -1);
        Check.due("hand(0, 7)", lid.hand(0, 7), -1);
        Check.due("hand(0, -1)", lid.hand(0, -1), -1);
        Check.due("jars, hands, tools", lid.count(0) * 100 + lid.count(1) * 10 + lid.count(2), 232);
    }

    private static void laws() {
        TightLid lid = new TightLid();
        Check.text(lid, 1, "y:77");
        Check.due("law(0) without a kitchen", lid.law(0), false);
        Check.due("law(NONE) without a kitchen", lid.law(-1), false);
        Check.text(lid, 0, TEXT);
        Check.due("law(1)", lid.law(1), false);
        Check.due("law(-2)", lid.law(-2), false);
        Check.due("none holds", lid.count(8), -1);
        Check.due("law(0)", lid.law(0), true);
        Check.due("0 holds", lid.count(8), 0);
        Check.due("grip by it", lid.grip(2, -1, 1), 77);
        Check.due("law(4)", lid.law(4), false);
        Check.due("0 holds still", lid.count(8), 0);
        Check.due("law(NONE)", lid.law(-1), true);
        Check.due("none holds again", lid.count(8), -1);
        Check.due("grip without", lid.grip(2, -1, 1), 7);
    }

    /** Of hand 0 (power 40, size 6, wet 2) on jar 0 (wide 8, cold 4) with tool 0 (adds 15), or none. */
    private static void worth(String law, int withTool, int without) {
        TightLid lid = Check.kitchen(TEXT);
        Check.due("law " + law, Check.text(lid, 1, law), 0);
        lid.law(0);
        Check.due(law + " with a tool", lid.grip(0, 0, 0), withTool);
        Check.due(law + " without", lid.grip(0, -1, 0), without);
    }

    private static void worths() {
        worth("y:p", 40, 40);
        worth("y:s", 6, 6);
        worth("y:w", 2, 2);
        worth("y:i", 8, 8);
        worth("y:c", 4, 4);
        worth("y:a", 15, 0);
        worth("y:p+a*2-s/4", 69, 39);
        worth("y:100/7/2", 7, 7);
        worth("y:100-7-2", 91, 91);
        worth("y:2+3*4", 14, 14);
        worth("y:[2+3]*4", 20, 20);
        worth("y:1-9", 0, 0);
        worth("y:[1-9]*[0-5]", 40, 40);
        worth("y:100+[0-7]/2", 97, 97);
        worth("y:100+7/[0-2]", 97, 97);
        worth("y:100+7/0", 100, 100);
        worth("y:7/a+3", 3, 3);
        worth("y:999", 999, 999);
        worth("y:1000", 999, 999);
        worth("y:9999*9999/5000", 200, 200);
        worth("y:9999*9999*9999/5000", 200, 200);
        worth("y:[0-9999*9999]/5000+300", 100, 100);
        worth("y:9999*9999+9999-9999*100", 100, 100);
        worth("y:a>0?1;y:2", 1, 2);
        worth("y:a>0?1", 1, 0);
        worth("y:a>0?1;y:a=0?5;y:6", 1, 5);
        worth("y:a<1|a>14?8;y:9", 8, 8);
        worth("y:a<1&a>14?8;y:9", 9, 9);
        worth("y:a<1&p>1|w=2&s=6?8;y:9", 8, 8);
        worth("y:a<1|p>1&w=3?8;y:9", 9, 8);
        worth("y:!a=0?8;y:9", 8, 9);
        worth("y:!!a=0?8;y:9", 9, 8);
        worth("y:!(a=0|p=40)?8;y:9", 9, 9);
        worth("y:!a=0&!p=41?8;y:9", 8, 9);
        worth("y:(a=0|p=41)&(w=2|w=3)?8;y:9", 9, 8);
        worth("y:p+a>50?[p+a]*2;y:p", 110, 40);
        worth("y:[p]>[a]?[w]", 2, 2);
        worth("y:p=40&p<41&p>39?1;y:2", 1, 1);
        worth("y:p=41|p<40|p>40?1;y:2", 2, 2);
        worth("y:[[[[[[p+1]+1]+1]+1]+1]+1]+1", 47, 47);
    }

    /** Laws that fill the tape, and those that leave the most undone till their last sign. */
    private static void longWorths() {
        String full = "y:!p=0?s" + "+s".repeat(96);
        Check.due("a full tape", full.length(), 200);
        worth(full, 97 * 6, 97 * 6);
        worth("y:!p=40?s" + "+s".repeat(93) + ";y:a", 15, 0);
        worth("y:" + "p=0|p=40&(".repeat(6) + "p=0|p=40&p=0+1*p" + ")".repeat(6) + "?7", 7, 7);
        worth("y:p=0|p=40&0=40-1*" + "[0+1*".repeat(6) + "p" + "]".repeat(6) + "?7", 7, 7);
    }

    private static void plainGrips() {
        TightLid lid = Check.kitchen(TEXT);
        Check.due("wet, wide, cold", lid.grip(0, -1, 0), 40 - 8 - 6 - 4);
        Check.due("with a tool", lid.grip(0, 0, 0), 15 + 22);
        Check.due("wide is not above size", lid.grip(0, 1, 1), 40 + 10 - 8);
        Check.due("0 at least", Check.kitchen("jw9c9;hp1s1w9").grip(0, -1, 0), 0);
        Check.due("grip(3, ..)", lid.grip(3, -1, 0), -1);
        Check.due("grip(-1, ..)", lid.grip(-1, -1, 0), -1);
        Check.due("grip(.., 2, ..)", lid.grip(0, 2, 0), -1);
        Check.due("grip(.., -2, ..)", lid.grip(0, -2, 0), -1);
        Check.due("grip(.., 2)", lid.grip(0, 0, 2), -1);
        Check.due("grip(.., -1)", lid.grip(0, 0, -1), -1);
        lid.turn(0, -1, 1);
        Check.due("power is as it is now", lid.grip(0, -1, 0), 19);
        lid.dry(0);
        Check.due("wet is as it is now", lid.grip(0, -1, 0), 27);
        lid.heat(20);
        Check.due("cold is as it is now", lid.grip(0, -1, 0), 29);
    }

    private static void lacking() {
        TightLid lid = Check.kitchen(TEXT);
        Check.due("lacks", lid.lacks(0, -1, 0), 88 - 22);
        Check.due("lacks with a tool", lid.lacks(0, 0, 0), 88 - 37);
        Check.due("lacks none", lid.lacks(0, -1, 1), 0);
        Check.due("lacks(3, ..)", lid.lacks(3, -1, 0), -1);
        Check.due("lacks(.., 2, ..)", lid.lacks(0, 2, 0), -1);
        Check.due("lacks(.., -2, ..)", lid.lacks(0, -2, 0), -1);
        Check.due("lacks(.., 2)", lid.lacks(0, -1, 2), -1);
        lid.table(1);
        lid.turn(0, -1, 0);
        Check.due("open", lid.lacks(0, -1, 1), -1);
        Check.due("the other one is not", lid.lacks(1, -1, 0), 88 - 17);
        Check.due("grip on an open one", lid.grip(1, -1, 1), 30);
        TightLid cracked = Check.kitchen("jg5;h");
        cracked.heat(6);
        Check.due("cracked", cracked.lacks(0, -1, 0), -1);
    }

    private static void whoAndLefties() {
        TightLid lid = Check.kitchen("jl1;j;jl0;jl1;hp40;hp41;hp45;hp0");
        Check.due("lefties", lid.lefties(), 9);
        Check.due("who(20, 0)", lid.who(20, 0), 3);
        Check.due("who(21, 1)", lid.who(21, 1), 7);
        Check.due("who(0, 0)", lid.who(0, 0), 8);
        Check.due("who(99, 99)", lid.who(99, 99), 15);
        Check.due("who(99, 77)", lid.who(99, 77), 4);
        Check.due("who(10, 9)", lid.who(10, 9), 0);
        Check.due("who(-1, 0)", lid.who(-1, 0), -1);
        Check.due("who(100, 0)", lid.who(100, 0), -1);
        Check.due("who(0, -1)", lid.who(0, -1), -1);
        Check.due("who(0, 100)", lid.who(0, 100), -1);
        lid.turn(0, -1, 1);
        Check.due("by power as told", lid.who(20, 0), 3);
        Check.due("no lefties", Check.kitchen("j;h").lefties(), 0);
        Check.due("lefties without a kitchen", new TightLid().lefties(), -1);
        Check.due("who without a kitchen", new TightLid().who(0, 99), -1);
    }
}
