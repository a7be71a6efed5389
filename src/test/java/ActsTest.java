/** Promises 13 to 20: turn, heat, work, dry, pause, shut, table, undo. */
public final class ActsTest {
    public static void main(String[] args) {
        turning();
        heating();
        working();
        dryingAndPausing();
        shutting();
        tables();
        undoing();
        refusals();
        Check.end();
    }

    private static void turning() {
        TightLid lid = Check.kitchen("jv40s20;jl1s1v0;hp35t9;hp99t4;ta5");
        Check.due("a try", lid.turn(0, -1, 0), 0);
        Check.due("stuck is less by 3", Check.jar(lid, 0, 1), 17);
        Check.due("loosened", lid.hand(0, 6), 3);
        Check.due("power is less", lid.hand(0, 0), 26);
        Check.due("a minute", lid.count(7), 1);
        Check.due("a try with a tool", lid.turn(0, 0, 0), 0);
        Check.due("stuck is less by 3 again", Check.jar(lid, 0, 1), 14);
        Check.due("loosened in all", lid.hand(0, 6), 6);
        Check.due("the wrong side", lid.turn(1, -1, 1), 0);
        Check.due("stuck is 2 more", Check.jar(lid, 0, 1), 16);
        Check.due("which tires, too", lid.hand(1, 0), 95);
        Check.due("and loosens none", lid.hand(1, 6), 0);
        Check.due("the right side", lid.turn(1, -1, 0), 1);
        Check.due("it is open", Check.jar(lid, 0, 8), 1);
        Check.due("stuck stays", Check.jar(lid, 0, 1), 16);
        Check.due("opening tires", lid.hand(1, 0), 91);
        Check.due("opening loosens none", lid.hand(1, 6), 0);
        Check.due("it is open already", lid.turn(1, -1, 0), -1);
        Check.due("side 2", lid.turn(1, -1, 2), -1);
        lid.table(1);
        Check.due("loosened of this jar", lid.hand(0, 6), 0);
        Check.due("its thread goes left", lid.turn(1, -1, 0), 0);
        Check.due("stuck", Check.jar(lid, 1, 1), 3);
        Check.due("left", lid.turn(1, -1, 1), 1);
        Check.due("minutes", lid.count(7), 6);
        edgesOfTurning();
    }

    private static void edgesOfTurning() {
        TightLid tired = Check.kitchen("jv90s1;hp12t9");
        tired.turn(0, -1, 0);
        Check.due("stuck 0", Check.jar(tired, 0, 1), 0);
        tired.turn(0, -1, 0);
        Check.due("stuck 0 at least", Check.jar(tired, 0, 1), 0);
        Check.due("loosened what there was", tired.hand(0, 6), 1);
        Check.due("power 0 at least", tired.hand(0, 0), 0);
        TightLid most = Check.kitchen("jv99s98;h");
        most.turn(0, -1, 1);
        most.turn(0, -1, 1);
        Check.due("stuck 99 at most", Check.jar(most, 0, 1), 99);
        TightLid little = Check.kitchen("jv99s2;hp45");
        little.turn(0, -1, 0);
        Check.due("loosened no more than stuck", little.hand(0, 6), 2);
        Check.due("grip as hold opens", Check.kitchen("jv20s10;hp30").turn(0, -1, 0), 1);
        Check.due("grip below hold does not", Check.kitchen("jv20s11;hp30").turn(0, -1, 0), 0);
        Check.due("hold 0 opens by grip 0", Check.kitchen("jv0s0;hp0").turn(0, -1, 0), 1);
    }

    private static void heating() {
        TightLid lid = Check.kitchen("jc3s9g45;jg1;h");
        Check.due("heat(19)", lid.heat(19), 0);
        Check.due("apart", Check.jar(lid, 0, 6), 19);
        Check.due("cold", Check.jar(lid, 0, 2), 2);
        Check.due("stuck", Check.jar(lid, 0, 1), 6);
        Check.due("heat(26)", lid.heat(26), 0);
        Check.due("apart as the glass bears", Check.jar(lid, 0, 6), 45);
        Check.due("cold then", Check.jar(lid, 0, 2), 0);
        Check.due("stuck then", Check.jar(lid, 0, 1), 1);
        Check.due("heat(1)", lid.heat(1), 1);
        Check.due("cracked", Check.jar(lid, 0, 9), 1);
        Check.due("not open", Check.jar(lid, 0, 8), 0);
        Check.due("heat of a cracked one", lid.heat(1), -1);
        Check.due("minutes", lid.count(7), 3);
        Check.due("heat(0)", lid.heat(0), -1);
        lid.table(1);
        Check.due("heat(0)", lid.heat(0), -1);
        Check.due("heat(61)", lid.heat(61), -1);
        Check.due("heat(60)", lid.heat(60), 1);
        Check.due("stuck 0 at least", Check.jar(lid, 1, 1), 0);
        Check.due("loosened by nobody", lid.hand(0, 6), 0);
    }

    private static void working() {
        TightLid lid = Check.kitchen("jv9s7c5;h");
        Check.due("tap", lid.work(0), 9 + 4 + 10);
        Check.due("knock", lid.work(1), 5 + 4 + 10);
        Check.due("fridge", lid.work(3), 5 + 4 + 16);
        Check.due("fridge, 9 at most", lid.work(3), 5 + 4 + 18);
        Check.due("tap", lid.work(0), 5 + 1 + 18);
        Check.due("tap, 0 at least", lid.work(0), 5 + 18);
        Check.due("knock", lid.work(1), 1 + 18);
        Check.due("knock, 0 at least", lid.work(1), 18);
        Check.due("not holed", Check.jar(lid, 0, 7), 0);
        Check.due("hole", lid.work(2), 18);
        Check.due("holed", Check.jar(lid, 0, 7), 1);
        Check.due("work(4)", lid.work(4), -1);
        Check.due("work(-1)", lid.work(-1), -1);
        Check.due("minutes", lid.count(7), 9);
        lid.turn(0, -1, 0);
        Check.due("open", Check.jar(lid, 0, 8), 1);
        for (int what = 0; what < 4; what++) {
            Check.due("work on an open one", lid.work(what), -1);
        }
        Check.due("hole makes vacuum 0", Check.kitchen("jv50s3;h").work(2), 3);
    }

    private static void dryingAndPausing() {
        TightLid lid = Check.kitchen("jg99;jg99;hw9p20t9;hw3p50t0");
        Check.due("dry(0)", lid.dry(0), true);
        Check.due("wet 0", lid.hand(0, 2), 0);
        Check.due("the other hand's", lid.hand(1, 2), 3);
        Check.due("dry a dry one", lid.dry(0), true);
        Check.due("dry(2)", lid.dry(2), false);
        Check.due("dry(-1)", lid.dry(-1), false);
        Check.due("minutes", lid.count(7), 2);
        lid.heat(30);
        lid.table(1);
        lid.heat(50);
        lid.turn(0, -1, 1);
        lid.turn(0, -1, 1);
        Check.due("power", lid.hand(0, 0), 2);
        Check.due("pause(19)", lid.pause(19), 25);
        Check.due("power as told at most", lid.hand(0, 0), 20);
        Check.due("power of the other", lid.hand(1, 0), 50);
        Check.due("wet less by 1", lid.hand(1, 2), 2);
        Check.due("apart of a jar, 0 at least", Check.jar(lid, 0, 6), 0);
        Check.due("apart of the other", Check.jar(lid, 1, 6), 12);
        Check.due("pause(0)", lid.pause(0), -1);
        Check.due("pause(61)", lid.pause(61), -1);
        Check.due("pause(60)", lid.pause(60), 85);
        Check.due("wet 0 at least", lid.hand(1, 2), 0);
        Check.due("pause(1)", lid.pause(1), 86);
        TightLid partly = Check.kitchen("j;hp20t9");
        partly.turn(0, -1, 1);
        partly.pause(4);
        Check.due("power 4 more", partly.hand(0, 0), 15);
        TightLid cracked = Check.kitchen("jg1;hw1");
        cracked.heat(30);
        Check.due("pause by a cracked jar", cracked.pause(5), 6);
        Check.due("which stays so", Check.jar(cracked, 0, 9), 1);
        Check.due("apart is less", Check.jar(cracked, 0, 6), 20);
        Check.due("dry by a cracked jar", cracked.dry(0), true);
    }

    private static void shutting() {
        TightLid lid = Check.kitchen("jv30s30c2;hp61t4;hp99t0");
        Check.due("shut one that is shut", lid.shut(0), -1);
        lid.turn(0, -1, 0);
        Check.due("loosened", lid.hand(0, 6), 5);
        lid.work(2);
        Check.due("open it", lid.turn(1, -1, 0), 1);
        Check.due("shut(2)", lid.shut(2), -1);
        Check.due("shut(-1)", lid.shut(-1), -1);
        Check.due("shut by power now", lid.shut(0), 57 / 2 + 4);
        Check.due("stuck", Check.jar(lid, 0, 1), 28);
        Check.due("vacuum", Check.jar(lid, 0, 0), 0);
        Check.due("not open", Check.jar(lid, 0, 8), 0);
        Check.due("holed still", Check.jar(lid, 0, 7), 1);
        Check.due("loosened 0", lid.hand(0, 6), 0);
        Check.due("power stays", lid.hand(0, 0), 57);
        Check.due("minutes", lid.count(7), 4);
        Check.due("shut again", lid.shut(0), -1);
        TightLid cracked = Check.kitchen("jg1;h");
        cracked.heat(2);
        Check.due("shut a cracked one", cracked.shut(0), -1);
        TightLid two = Check.kitchen("jv10s5;jv90s50;hp60t0;h;h;h;h;h");
        two.table(1);
        two.turn(0, -1, 0);
        two.table(0);
        two.turn(0, -1, 0);
        Check.due("shut by the sixth hand", two.shut(5), 15);
        two.table(1);
        Check.due("loosened of another jar stays", two.hand(0, 6), 6);
    }

    private static void tables() {
        TightLid lid = Check.kitchen("j;jv7;h");
        Check.due("table(0) at first", lid.table(0), false);
        Check.due("table(2)", lid.table(2), false);
        Check.due("table(-1)", lid.table(-1), false);
        Check.due("table(1)", lid.table(1), true);
        Check.due("count(6)", lid.count(6), 1);
        Check.due("no minute", lid.count(7), 0);
        Check.due("an act", lid.count(10), 1);
        Check.due("work there", lid.work(1), 13);
        Check.due("the other one is as it was", Check.jar(lid, 0, 0), 20);
        lid.turn(0, -1, 0);
        Check.due("open", Check.jar(lid, 1, 8), 1);
        Check.due("from an open one", lid.table(0), true);
        Check.due("to an open one", lid.table(1), true);
    }

    private static void undoing() {
        TightLid lid = Check.kitchen("jv80s60c9g30;jl1;hp50w5t7;hp9;t");
        String[] seen = new String[12];
        for (int i = 0; i < 11; i++) {
            seen[i] = Check.all(lid);
            act(lid, i);
            Check.due("acts", lid.count(10), i + 1);
            Check.due("notes", lid.count(11), i + 1);
        }
        for (int i = 10; i >= 0; i--) {
            Check.due("undo", lid.undo(), i);
            Check.same("undone " + i, Check.all(lid), seen[i]);
        }
        Check.due("undo of none", lid.undo(), -1);
        for (int i = 1; i <= 45; i++) {
            lid.pause(1);
            Check.due("acts, 40 at most", lid.count(10), Math.min(40, i));
        }
        for (int i = 39; i >= 0; i--) {
            Check.due("undo of 40", lid.undo(), i);
        }
        Check.due("undo of a 41st", lid.undo(), -1);
        Check.due("the minute of the fifth", lid.count(7), 5);
        Check.due("the log of five", lid.count(11), 5);
    }

    private static void act(TightLid lid, int i) {
        switch (i) {
            case 0 -> lid.turn(0, -1, 0);
            case 1 -> lid.turn(0, 0, 1);
            case 2 -> lid.heat(17);
            case 3 -> lid.work(0);
            case 4 -> lid.work(1);
            case 5 -> lid.work(2);
            case 6 -> lid.work(3);
            case 7 -> lid.dry(0);
            case 8 -> lid.pause(12);
            case 9 -> lid.table(1);
            default -> lid.turn(0, -1, 1);
        }
    }

    private static void refusals() {
        TightLid open = Check.kitchen("jv1s1;h");
        open.turn(0, -1, 0);
        refused("open", open);
        TightLid cracked = Check.kitchen("jg1;h");
        cracked.heat(2);
        refused("cracked", cracked);
        refused("no kitchen", new TightLid());
        TightLid plain = Check.kitchen("j;h;t");
        String seen = Check.all(plain);
        Check.due("turn(1, ..)", plain.turn(1, -1, 0), -1);
        Check.due("turn(-1, ..)", plain.turn(-1, -1, 0), -1);
        Check.due("turn(.., 1, ..)", plain.turn(0, 1, 0), -1);
        Check.due("turn(.., -2, ..)", plain.turn(0, -2, 0), -1);
        Check.due("turn(.., 2)", plain.turn(0, 0, 2), -1);
        Check.due("turn(.., -1)", plain.turn(0, 0, -1), -1);
        Check.same("nothing changed", Check.all(plain), seen);
    }

    private static void refused(String state, TightLid lid) {
        String seen = Check.all(lid);
        Check.due(state + ": turn", lid.turn(0, -1, 0), -1);
        Check.due(state + ": heat", lid.heat(5), -1);
        Check.due(state + ": work", lid.work(0), -1);
        Check.due(state + ": evening", lid.evening(5, 7L), -1);
        Check.due(state + ": perform", lid.perform(0), -1);
        Check.due(state + ": table", lid.table(0), false);
        Check.due(state + ": dry", lid.dry(1), false);
        Check.due(state + ": pause", lid.pause(0), -1);
        Check.same(state + ": nothing changed", Check.all(lid), seen);
    }
}
