import java.util.function.Supplier;

/** Sentences of part 2 that name edges: what ACTS do at them. */
final class EdgeActs {
    private EdgeActs() {
    }

    static void all() {
        table();
        hold();
        lacks();
        wrongSide();
        opening();
        loosening();
        tiring();
        heating();
        cracking();
        tapsAndKnocks();
        holes();
        fridge();
        onOpenOrCracked();
        drying();
        waiting();
        shutting();
        minutes();
        undoing();
    }

    private static int jar(TightLid lid, int jar, int what) {
        return Check.jar(lid, jar, what);
    }

    static TightLid opened() {
        TightLid lid = Check.kitchen("jv20s10g30;jg5;hp40;hp20w3;t");
        lid.turn(1, -1, 0);
        lid.turn(0, -1, 0);
        return lid;
    }

    static TightLid cracked() {
        TightLid lid = Check.kitchen("jv20s10g30;jg5;hp40;hp20w3;t");
        lid.turn(1, -1, 0);
        lid.heat(31);
        return lid;
    }

    private static void table() {
        Edge.says("One JAR is on the TABLE (JAR 0 at first).");
        TightLid lid = Check.kitchen("jv30;jv40;h");
        Edge.due("at first", lid.count(6), 0);
        Edge.due("work there", lid.work(1), 36);
        Edge.due("not on the other", jar(lid, 1, 0), 40);
        lid.table(1);
        Edge.due("then", lid.count(6), 1);
        Edge.due("work there", lid.work(1), 46);
        Edge.due("not on the other", jar(lid, 0, 0), 26);
        Check.text(lid, 0, "j;j;j;h");
        Edge.due("at first again", lid.count(6), 0);
    }

    private static void hold() {
        Edge.says("HOLD of a JAR: VACUUM, STUCK and twice COLD together (as they are now).");
        TightLid lid = Check.kitchen("jv99s99c9;jv0s0c0;h");
        Edge.due("the most", jar(lid, 0, 10), 216);
        Edge.due("the least", jar(lid, 1, 10), 0);
        lid.work(0);
        lid.work(1);
        lid.heat(10);
        Edge.due("now", jar(lid, 0, 10), 95 + 94 + 16);
    }

    private static void lacks() {
        Edge.says("LACKS: HOLD less GRIP, 0 at least.");
        TightLid lid = Check.kitchen("jv20s10;hp29;hp30;hp31;hp99;hp0");
        Edge.row("lacks of hand", hand -> lid.lacks(hand, -1, 0), 1, 0, 0, 0, 30);
    }

    private static void wrongSide() {
        Edge.says("to the side its thread does not go: STUCK is 2 more (99 at most).");
        TightLid lid = Check.kitchen("jv0s96;jl1s0;hp99t0");
        int[] want = {98, 99, 99};
        for (int stuck : want) {
            Edge.due("not open", lid.turn(0, -1, 1), 0);
            Edge.due("stuck", jar(lid, 0, 1), stuck);
        }
        Edge.due("none loosened", lid.hand(0, 6), 0);
        lid.table(1);
        Edge.due("right on a left one", lid.turn(0, -1, 0), 0);
        Edge.due("stuck there", jar(lid, 1, 1), 2);
        Edge.due("left on a left one", lid.turn(0, -1, 1), 1);
    }

    private static void opening() {
        Edge.says("Else: if GRIP is no less than HOLD, it is OPEN");
        Edge.due("one less", Check.kitchen("jv20s10;hp29").turn(0, -1, 0), 0);
        Edge.due("as much", Check.kitchen("jv20s10;hp30").turn(0, -1, 0), 1);
        Edge.due("one more", Check.kitchen("jv20s10;hp31").turn(0, -1, 0), 1);
        Edge.due("none against none", Check.kitchen("jv0s0;hp0").turn(0, -1, 0), 1);
        TightLid lid = Check.kitchen("jv20s10;hp30");
        lid.turn(0, -1, 0);
        Edge.due("it is open", jar(lid, 0, 8), 1);
        Edge.due("stuck as it was", jar(lid, 0, 1), 10);
        Edge.due("none loosened", lid.hand(0, 6), 0);
    }

    private static void loosening() {
        Edge.says("else STUCK is less by GRIP by 10 (cut; 0 at least): so much that HAND LOOSENED of it.");
        int[][] rows = {{0, 0}, {9, 0}, {10, 1}, {19, 1}, {20, 2}, {49, 4}, {50, 5}, {59, 5}, {99, 5}};
        for (int[] row : rows) {
            TightLid lid = Check.kitchen("jv99s5;hp" + row[0]);
            Edge.due("not open", lid.turn(0, -1, 0), 0);
            Edge.due("stuck behind a grip of " + row[0], jar(lid, 0, 1), 5 - row[1]);
            Edge.due("loosened", lid.hand(0, 6), row[1]);
        }
        TightLid lid = Check.kitchen("jv99s9;hp40t0;hp30t0");
        lid.turn(0, -1, 0);
        lid.turn(1, -1, 0);
        lid.turn(0, -1, 0);
        Edge.due("stuck 0", jar(lid, 0, 1), 0);
        Edge.due("4 and 2 by hand 0", lid.hand(0, 6), 6);
        Edge.due("3 by hand 1", lid.hand(1, 6), 3);
    }

    private static void tiring() {
        Edge.says("Then POWER of the HAND is less by TIRES (0 at least).");
        TightLid lid = Check.kitchen("jv99s99;hp9t9;hp10t9;hp8t9;hp7t0");
        for (int hand = 0; hand < 4; hand++) {
            lid.turn(hand, -1, 0);
        }
        Edge.row("power of hand", hand -> lid.hand(hand, 0), 0, 1, 0, 7);
        lid.turn(1, -1, 1);
        Edge.due("by the wrong side, too", lid.hand(1, 0), 0);
        Edge.due("as told it is", lid.hand(1, 5), 10);
        TightLid open = Check.kitchen("jv0s0;hp9t4");
        open.turn(0, -1, 0);
        Edge.due("by opening, too", open.hand(0, 0), 5);
    }

    private static void heating() {
        Edge.says("HEAT of n (1 .. 60): APART (0 at first) is n more, COLD n by 10 less, STUCK n by 5 less"
                + " (cut; 0 at least each)");
        int[][] rows = {{1, 9, 99}, {4, 9, 99}, {5, 9, 98}, {9, 9, 98}, {10, 8, 97}, {59, 4, 88}, {60, 3, 87}};
        for (int[] row : rows) {
            TightLid lid = Check.kitchen("jg99s99c9;h");
            Edge.due("apart at first", jar(lid, 0, 6), 0);
            Edge.due("heat(" + row[0] + ")", lid.heat(row[0]), 0);
            Edge.due("apart", jar(lid, 0, 6), row[0]);
            Edge.due("cold", jar(lid, 0, 2), row[1]);
            Edge.due("stuck", jar(lid, 0, 1), row[2]);
            Edge.due("vacuum", jar(lid, 0, 0), 20);
        }
        TightLid little = Check.kitchen("jg99s11c5;h");
        little.heat(60);
        Edge.due("cold 0 at least", jar(little, 0, 2), 0);
        Edge.due("stuck 0 at least", jar(little, 0, 1), 0);
        little.heat(39);
        Edge.due("apart in all", jar(little, 0, 6), 99);
        Supplier<TightLid> lid = () -> Check.kitchen("j;h");
        Edge.refused(lid, "heat(0)", x -> x.heat(0), -1);
        Edge.refused(lid, "heat(-1)", x -> x.heat(-1), -1);
        Edge.refused(lid, "heat(61)", x -> x.heat(61), -1);
    }

    private static void cracking() {
        Edge.says("if APART is above what GLASS bears, it is CRACKED.");
        int[] glasses = {1, 2, 40, 59};
        for (int glass : glasses) {
            TightLid lid = Check.kitchen("jg" + glass + ";h");
            Edge.due("heat of " + glass, lid.heat(glass), 0);
            Edge.due("not cracked", jar(lid, 0, 9), 0);
            Edge.due("one more", lid.heat(1), 1);
            Edge.due("cracked", jar(lid, 0, 9), 1);
            Edge.due("at once", Check.kitchen("jg" + glass + ";h").heat(glass + 1), 1);
        }
        TightLid most = Check.kitchen("jg99;h");
        most.heat(60);
        Edge.due("99 in all", most.heat(39), 0);
        Edge.due("100 in all", most.heat(1), 1);
    }

    private static void tapsAndKnocks() {
        Edge.says("TAP: STUCK 3 less; KNOCK: VACUUM 4 less");
        for (int told = 0; told <= 5; told++) {
            TightLid lid = Check.kitchen("jv" + told + "s" + told + ";h");
            Edge.due("tap of " + told, lid.work(0), told + Math.max(0, told - 3));
            Edge.due("stuck", jar(lid, 0, 1), Math.max(0, told - 3));
            lid.work(1);
            Edge.due("vacuum", jar(lid, 0, 0), Math.max(0, told - 4));
        }
    }

    private static void holes() {
        Edge.says("HOLE: VACUUM 0, it is HOLED.");
        TightLid lid = Check.kitchen("jv99s1;jv0s1;h");
        Edge.due("hole", lid.work(2), 1);
        Edge.due("vacuum", jar(lid, 0, 0), 0);
        Edge.due("holed", jar(lid, 0, 7), 1);
        Edge.due("the other is not", jar(lid, 1, 7), 0);
        Edge.due("a second hole", lid.work(2), 1);
        lid.table(1);
        lid.work(2);
        Edge.due("without vacuum, holed", jar(lid, 1, 7), 1);
    }

    private static void fridge() {
        Edge.says("FRIDGE: COLD 3 more (9 at most).");
        int[][] colds = {{0, 3}, {5, 8}, {6, 9}, {7, 9}, {9, 9}};
        for (int[] cold : colds) {
            TightLid cool = Check.kitchen("jv0s0c" + cold[0] + ";h");
            Edge.due("fridge of " + cold[0], cool.work(3), 2 * cold[1]);
            Edge.due("cold", jar(cool, 0, 2), cold[1]);
        }
        TightLid lid = Check.kitchen("jc2;jc4;h");
        lid.work(3);
        lid.work(3);
        lid.work(3);
        Edge.due("9 at most", jar(lid, 0, 2), 9);
        Edge.due("not of the other", jar(lid, 1, 2), 4);
        lid.heat(10);
        lid.work(3);
        Edge.due("again 9", jar(lid, 0, 2), 9);
    }

    private static void onOpenOrCracked() {
        Edge.says("(None of these on one that is OPEN or CRACKED.)");
        refusedOn("open", EdgeActs::opened);
        refusedOn("cracked", EdgeActs::cracked);
        TightLid other = opened();
        other.table(1);
        Edge.due("on another one", other.work(0), 27);
        TightLid undone = cracked();
        undone.undo();
        Edge.due("on one that is no more", undone.work(0), 27);
    }

    private static void refusedOn(String state, Supplier<TightLid> made) {
        Edge.refused(made, state + ": turn right", lid -> lid.turn(0, -1, 0), -1);
        Edge.refused(made, state + ": turn left", lid -> lid.turn(0, 0, 1), -1);
        Edge.refused(made, state + ": heat", lid -> lid.heat(1), -1);
        Edge.refused(made, state + ": tap", lid -> lid.work(0), -1);
        Edge.refused(made, state + ": knock", lid -> lid.work(1), -1);
        Edge.refused(made, state + ": hole", lid -> lid.work(2), -1);
        Edge.refused(made, state + ": fridge", lid -> lid.work(3), -1);
    }

    private static void drying() {
        Edge.says("DRY a HAND: WET 0.");
        TightLid lid = Check.kitchen("j;hw9;hw0;hw1");
        Edge.due("dry a wet one", lid.dry(0), true);
        Edge.due("dry a dry one", lid.dry(1), true);
        Edge.row("wet of hand", hand -> lid.hand(hand, 2), 0, 0, 1);
        Edge.due("both are acts", lid.count(10), 2);
        TightLid open = opened();
        Edge.due("by an open jar", open.dry(1), true);
        Edge.due("wet", open.hand(1, 2), 0);
        Edge.due("by a cracked one", cracked().dry(1), true);
    }

    private static void waiting() {
        Edge.says("WAIT of n (1 .. 60): APART of all JARS 2 n less, POWER of all HANDS n more (as told at most),"
                + " WET n by 10 less (cut; 0 at least each).");
        int[][] rows = {{1, 57, 8, 1, 9}, {9, 41, 0, 9, 9}, {10, 39, 0, 10, 8}, {19, 21, 0, 18, 8}, {20, 19, 0, 18, 7},
            {30, 0, 0, 18, 6}, {60, 0, 0, 18, 3}};
        for (int[] row : rows) {
            TightLid lid = Check.kitchen("jg99v90;jg99v90;hp18t9w9;hp5w0");
            lid.heat(59);
            lid.table(1);
            lid.heat(10);
            lid.turn(0, -1, 1);
            lid.turn(0, -1, 1);
            Edge.due("pause(" + row[0] + ")", lid.pause(row[0]), 4 + row[0]);
            Edge.due("apart", jar(lid, 0, 6), row[1]);
            Edge.due("apart of the one on the table", jar(lid, 1, 6), row[2]);
            Edge.due("power", lid.hand(0, 0), row[3]);
            Edge.due("wet", lid.hand(0, 2), row[4]);
            Edge.due("power as told", lid.hand(1, 0), 5);
            Edge.due("wet 0", lid.hand(1, 2), 0);
        }
        Supplier<TightLid> lid = () -> Check.kitchen("j;hp20w9");
        Edge.refused(lid, "pause(0)", x -> x.pause(0), -1);
        Edge.refused(lid, "pause(-1)", x -> x.pause(-1), -1);
        Edge.refused(lid, "pause(61)", x -> x.pause(61), -1);
        waitOfAll();
        TightLid dry = Check.kitchen("j;hw5");
        dry.pause(60);
        Edge.due("wet 0 at least", dry.hand(0, 2), 0);
        TightLid broken = cracked();
        broken.pause(60);
        Edge.due("a cracked one stays so", jar(broken, 0, 9), 1);
        Edge.due("apart of a cracked one", jar(broken, 0, 6), 0);
    }

    /** As many as there can be: a wait changes what it is told to, of all of them, and nothing else. */
    private static void waitOfAll() {
        TightLid lid = Check.kitchen("jg99v90;jg99v90;jg99v90;jg99v90;hp90w9t9;hp90w9t9;hp90w9t9;hp90w9t9;hp90w9t9;hp90w9t9;"
                + "t;t;t;t");
        for (int jar = 3; jar >= 0; jar--) {
            lid.table(jar);
            lid.heat(40 + jar);
        }
        for (int hand = 0; hand < 6; hand++) {
            lid.turn(hand, -1, 1);
        }
        lid.pause(5);
        for (int jar = 0; jar < 4; jar++) {
            int n = jar;
            Edge.row("jar " + jar, what -> jar(lid, n, what), 90, n == 0 ? 14 : 2, 0, 0, 5, 99, 30 + n, 0, 0, 0);
        }
        for (int hand = 0; hand < 6; hand++) {
            int n = hand;
            Edge.row("hand " + hand, what -> lid.hand(n, what), 86, 5, 9, 9, 0, 90, 0);
        }
    }

    private static void shutting() {
        Edge.says("SHUT by a HAND: one that is OPEN: it is shut; STUCK is POWER by 2 (cut), VACUUM 0;"
                + " what HANDS LOOSENED of it 0.");
        int[][] rows = {{0, 0}, {1, 0}, {2, 1}, {3, 1}, {98, 49}, {99, 49}};
        for (int[] row : rows) {
            TightLid lid = Check.kitchen("jv40s20c1;hp99t0;hp51t0;hp" + row[0]);
            lid.turn(1, -1, 0);
            Edge.due("loosened", lid.hand(1, 6), 5);
            lid.turn(0, -1, 0);
            Edge.due("shut by a power of " + row[0], lid.shut(2), row[1] + 2);
            Edge.due("stuck", jar(lid, 0, 1), row[1]);
            Edge.due("vacuum", jar(lid, 0, 0), 0);
            Edge.due("cold stays", jar(lid, 0, 2), 1);
            Edge.due("shut", jar(lid, 0, 8), 0);
            Edge.due("loosened 0", lid.hand(1, 6), 0);
            Edge.due("it can be tried again", lid.turn(0, -1, 0), 1);
        }
        TightLid tired = Check.kitchen("jv0s0;hp41t9;h;h;h;h;hp90t9");
        tired.turn(0, -1, 0);
        Edge.due("by power now", tired.shut(0), 16);
        tired.turn(5, -1, 0);
        Edge.due("by the sixth hand", tired.shut(5), 40);
        TightLid closed = Check.kitchen("j;h");
        Edge.looks(closed, "one that is not open", () -> closed.shut(0), -1);
        TightLid broken = cracked();
        Edge.looks(broken, "one that is cracked", () -> broken.shut(0), -1);
        shutOfTwo();
    }

    private static void shutOfTwo() {
        TightLid two = Check.kitchen("jv40s40;jv40s40;hp50t0;hp99t0;h;h;h;hp30t0");
        two.turn(0, -1, 0);
        two.turn(5, -1, 0);
        two.table(1);
        two.turn(0, -1, 0);
        two.turn(5, -1, 0);
        two.turn(1, -1, 0);
        two.shut(1);
        Edge.due("of it 0, hand 0", two.hand(0, 6), 0);
        Edge.due("of it 0, hand 5", two.hand(5, 6), 0);
        two.table(0);
        Edge.due("of the other as it was, hand 0", two.hand(0, 6), 5);
        Edge.due("of the other as it was, hand 5", two.hand(5, 6), 3);
        Edge.due("and that one as it was", jar(two, 0, 0), 40);
    }

    private static void minutes() {
        Edge.says("MINUTES: WAIT n, all others 1 each.");
        TightLid lid = Check.kitchen("jg99v90;j;h;hp99t0");
        lid.turn(0, -1, 0);
        Edge.due("a try", lid.count(7), 1);
        lid.turn(0, -1, 1);
        Edge.due("a try to the wrong side", lid.count(7), 2);
        lid.heat(60);
        Edge.due("heat of 60", lid.count(7), 3);
        for (int what = 0; what < 4; what++) {
            lid.work(what);
            Edge.due("work " + what, lid.count(7), 4 + what);
        }
        lid.dry(0);
        Edge.due("dry", lid.count(7), 8);
        lid.pause(1);
        Edge.due("wait 1", lid.count(7), 9);
        lid.pause(60);
        Edge.due("wait 60", lid.count(7), 69);
        lid.turn(1, -1, 0);
        Edge.due("a try that opens", lid.count(7), 70);
        lid.shut(0);
        Edge.due("shut", lid.count(7), 71);
        lid.table(1);
        Edge.due("table", lid.count(7), 71);
        lid.heat(41);
        Edge.due("heat that cracks", lid.count(7), 72);
    }

    private static void undoing() {
        Edge.says("All these, and a JAR put on the TABLE (0 MINUTES), are ACTS: the latest (40 at most)"
                + " can be UNDONE one by one.");
        TightLid lid = Check.kitchen("jv90;jv80;h");
        String[] seen = new String[43];
        for (int i = 0; i < 43; i++) {
            seen[i] = lid.count(7) + " " + lid.count(6) + " " + jar(lid, 0, 0) + " " + jar(lid, 1, 0);
            Edge.due("before act " + i, lid.count(10), Math.min(40, i));
            if (i % 2 == 0) {
                lid.table(i / 2 % 2 == 0 ? 1 : 0);
            } else {
                lid.work(1);
            }
        }
        Edge.due("40 of 43", lid.count(10), 40);
        for (int i = 42; i >= 3; i--) {
            Edge.due("undo of act " + i, lid.undo(), i - 3);
            Edge.same("as ahead of act " + i,
                    lid.count(7) + " " + lid.count(6) + " " + jar(lid, 0, 0) + " " + jar(lid, 1, 0), seen[i]);
        }
        Edge.looks(lid, "a 41st", lid::undo, -1);
        everyKind();
    }

    private static void everyKind() {
        TightLid lid = Check.kitchen("jv40s40c9g30;jl1v5s5;hp50w5t7;hp9;t");
        Check.text(lid, 2, "t;d0");
        String[] seen = new String[20];
        for (int i = 0; i < 13; i++) {
            seen[i] = Check.all(lid);
            act(lid, i);
            Edge.due("acts behind " + i, lid.count(10), i + 1);
        }
        for (int i = 12; i >= 0; i--) {
            Edge.due("undo", lid.undo(), i);
            Edge.same("as ahead of " + i, Check.all(lid), seen[i]);
        }
        Edge.due("none is left", lid.undo(), -1);
    }

    private static void act(TightLid lid, int i) {
        switch (i) {
            case 0 -> Edge.due("turn", lid.turn(0, -1, 0), 0);
            case 1 -> Edge.due("turn to the wrong side", lid.turn(0, 0, 1), 0);
            case 2 -> Edge.due("heat", lid.heat(17), 0);
            case 3, 4, 5, 6 -> Edge.due("work", lid.work(i - 3) >= 0, true);
            case 7 -> Edge.due("dry", lid.dry(0), true);
            case 8 -> Edge.due("pause", lid.pause(12) > 0, true);
            case 9 -> Edge.due("table", lid.table(1), true);
            case 10 -> Edge.due("turn that opens", lid.turn(0, -1, 1), 1);
            case 11 -> Edge.due("shut", lid.shut(0) >= 0, true);
            default -> Edge.due("heat that cracks", lid.heat(60), 1);
        }
    }
}
