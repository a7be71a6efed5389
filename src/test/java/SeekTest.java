/** Promises 21 to 32: soonest, order, run, best, opens, share, cheapest, safe, enough, saves, openers, factory. */
public final class SeekTest {
    public static void main(String[] args) {
        soonest();
        soonestRefused();
        orders();
        runs();
        bestPlans();
        shares();
        cheapest();
        safeAndEnough();
        saves();
        factories();
        nothingChanges();
        Check.end();
    }

    private static void soonest(String kitchen, int k, boolean hole, int many, int first) {
        TightLid lid = Check.kitchen(kitchen);
        String call = kitchen + ": soonest(" + k + ", " + hole + ", ";
        Check.due(call + "0)", lid.soonest(k, hole, 0), many);
        Check.due(call + "1)", lid.soonest(k, hole, 1), first);
    }

    private static void soonest() {
        soonest("jv20s10;hp30", 1, false, 1, 109);
        soonest("jv20s10;hp29", 1, false, Check.HIDDEN, Check.HIDDEN);
        soonest("jv20s10;hp29;t", 1, false, 1, 100);
        soonest("jv20s10;hp1;hp29;ta1;ta0", 1, false, 1, 110);
        soonest("jv20s10;hp27", 2, false, 2, 0);
        soonest("jv20s2;hp19", 2, false, 2, 1);
        soonest("jv20s10;hp26", 2, false, 2, 1);
        soonest("jv50s10;hp26", 2, false, Check.HIDDEN, Check.HIDDEN);
        soonest("jv50s10;hp26", 2, true, 2, 2);
        soonest("jv50s10;hp8", 3, true, 3, 0);
        soonest("jv50s10;hp8", 3, false, Check.HIDDEN, Check.HIDDEN);
        soonest("jv0s0c1;hp2w0", 2, false, 2, 3);
        soonest("jv0s0c1g9;hp2w0", 3, false, Check.HIDDEN, Check.HIDDEN);
        soonest("jv10s10;hp20w3", 2, false, 2, 10);
        soonest("jv10s10;hp0;hp20w9", 2, false, 2, 11);
        soonest("jv10s10;hp0;hp20w1;h", 1, false, 1, 129);
        soonest("jv60s1;hp60t0", 2, false, 2, 0);
        soonest("jv60s2;hp0;hp60t0", 3, false, 2, 0);
        soonest("jv0s10;hp4", 3, false, 3, 0);
        soonest("jv8s0;hp0", 3, false, 3, 1);
        soonest("jv0s4g20;hp0", 3, false, 3, 0);
        soonest("jv0s4g19;hp1", 3, false, 2, 0);
        soonest("jv40s9;hp45t9;hp49t0", 2, false, 1, 119);
        soonest("jv40s9;hp45t0", 3, false, 2, 1);
        soonest("jv45s5;hp45t0;ta0", 3, false, 3, 0);
        TightLid tired = Check.kitchen("jv30s2l1;hp30t9");
        tired.turn(0, -1, 0);
        tired.work(1);
        tired.work(0);
        tired.work(0);
        Check.due("power 21 against 26", tired.lacks(0, -1, 0), 5);
        Check.due("knocks or a wait", tired.soonest(2, false, 1), 4);
        Check.due("how many", tired.soonest(3, false, 0), 2);
        TightLid byLaw = Check.kitchen("jv30s0c5;hp1;hp2w9;t");
        Check.text(byLaw, 1, "y:w>8&c<5?99;y:0");
        byLaw.law(0);
        Check.due("by a law", byLaw.soonest(3, false, 0), 2);
        Check.due("heat lets it grip", byLaw.soonest(3, false, 1), 3);
        soonestAtTheEdges();
    }

    private static void soonestAtTheEdges() {
        soonest("jv40s29;hp60t0", 3, false, 3, 0);
        soonest("jv40s30;hp60t0", 3, false, 3, 1);
        soonest("jv40s31;hp60t0", 3, false, 3, 109);
        soonest("jv40s33;hp60t0", 3, false, Check.HIDDEN, Check.HIDDEN);
        TightLid many = Check.kitchen("j;h;h;h;h;h;hp50;t;t;t;t");
        Check.text(many, 1, "y:p=50&a=0?99;y:0");
        many.law(0);
        Check.due("the last hand, bare", many.soonest(1, true, 1), 159);
        Check.due("none sooner", many.soonest(3, true, 0), 1);
    }

    private static void soonestRefused() {
        TightLid lid = Check.kitchen("jv1s1g5;j;h");
        Check.due("k 0", lid.soonest(0, true, 0), Check.HIDDEN);
        Check.due("k 4", lid.soonest(4, true, 0), Check.HIDDEN);
        Check.due("what 2", lid.soonest(1, true, 2), Check.HIDDEN);
        Check.due("what -1", lid.soonest(1, true, -1), Check.HIDDEN);
        lid.turn(0, -1, 0);
        Check.due("open: how many", lid.soonest(3, true, 0), 0);
        Check.due("open: the first", lid.soonest(3, true, 1), -1);
        Check.due("open: k 4", lid.soonest(4, true, 0), Check.HIDDEN);
        lid.undo();
        lid.heat(6);
        Check.due("cracked", lid.soonest(3, true, 0), Check.HIDDEN);
        Check.due("no kitchen", new TightLid().soonest(3, true, 0), Check.HIDDEN);
    }

    private static void order(String kitchen, int digits, int many) {
        TightLid lid = Check.kitchen(kitchen);
        Check.due(kitchen + ": order(0)", lid.order(0), digits);
        Check.due(kitchen + ": order(1)", lid.order(1), many);
    }

    private static void orders() {
        order("j;hp30", 0, 1);
        order("j;hp29", -1, -1);
        order("j;hp29;hp30", 10, 1);
        order("j;hp29;hp28;hp30", 201, 1);
        order("jv40s10;hp45;hp40;hp30;hp20", 1203, 3);
        order("jv40s10;hp45;hp49;hp20", 12, 2);
        order("jv40s3;hp40;hp10;hp10;hp10", 1230, 4);
        order("jl1;hp30", 0, 1);
        order("jv50s9;hp1;hp1;hp1;hp1;hp55;hp49", 540123, 2);
        order("jv90s90;hp1;hp1;hp1;hp1;hp1;hp1", -1, -1);
        TightLid lid = Check.kitchen("jg1;h");
        Check.due("order(2)", lid.order(2), -1);
        Check.due("order(-1)", lid.order(-1), -1);
        lid.heat(2);
        Check.due("cracked", lid.order(0), -1);
        Check.due("no kitchen", new TightLid().order(0), -1);
    }

    private static TightLid planned(String kitchen, String... plans) {
        TightLid lid = Check.kitchen(kitchen);
        for (int i = 0; i < plans.length; i++) {
            Check.due("plan " + plans[i], Check.text(lid, 2, plans[i]), i);
        }
        return lid;
    }

    private static void run(TightLid lid, int plan, int open, int cracked, int minutes) {
        Check.due("run(" + plan + ", 0)", lid.run(plan, 0), open);
        Check.due("run(" + plan + ", 1)", lid.run(plan, 1), cracked);
        Check.due("run(" + plan + ", 2)", lid.run(plan, 2), minutes);
    }

    private static void runs() {
        TightLid lid = planned("jv20s13g15;hp30w0", "t;y09;k;w", "h;h;t", "w;y99;y04;d7;t;y09", "k;w");
        lid.pause(3);
        run(lid, 0, 2, -1, 2);
        run(lid, 1, -1, 2, 2);
        run(lid, 2, 6, -1, 12);
        run(lid, 3, -1, -1, 11);
        run(lid, 4, -1, -1, -1);
        run(lid, -1, -1, -1, -1);
        Check.due("run(0, 3)", lid.run(0, 3), -1);
        Check.due("run(0, -1)", lid.run(0, -1), -1);
        lid.work(0);
        lid.turn(0, -1, 0);
        run(lid, 0, -1, -1, -1);
        TightLid none = new TightLid();
        Check.text(none, 2, "t");
        run(none, 0, -1, -1, -1);
        TightLid left = planned("jv20s10l1;hp30", "y09");
        run(left, 0, 1, -1, 1);
    }

    private static void bestPlans() {
        TightLid lid = planned("jv20s10g15;hp25;hp30w9", "k;t;y09", "d1;y19", "o;y09", "h;h;o;y09");
        Check.due("of several the lowest", lid.best(true), 1);
        Check.due("without a hole", lid.best(false), 1);
        TightLid holes = planned("jv40s10g15;hp25;hp50w9", "o;y09", "w;d1;y19", "d1;t;k;y19", "d1;y19;o");
        Check.due("a hole", holes.best(true), 0);
        Check.due("a hole that is not done", holes.best(false), 3);
        TightLid cracks = planned("jv90s10g15;h", "h;h", "t", "o;w;y09");
        Check.due("by a hole alone", cracks.best(true), 2);
        Check.due("none", cracks.best(false), -1);
        cracks.heat(16);
        Check.due("cracked", cracks.best(true), -1);
        Check.due("no plans", Check.kitchen("j;h").best(true), -1);
        Check.due("no kitchen", new TightLid().best(true), -1);
        TightLid open = planned("jv1s1;h", "t");
        open.turn(0, -1, 0);
        Check.due("open", open.best(true), -1);
    }

    private static void shares() {
        TightLid lid = Check.kitchen("jv20s10;hp25;hp28;hp15");
        int[] want = {0, 0, 0, 1, 0, 0, 0, 1};
        for (int set = 0; set < want.length; set++) {
            Check.due("opens(" + set + ")", lid.opens(set), want[set]);
        }
        Check.due("opens(8)", lid.opens(8), -1);
        Check.due("opens(-1)", lid.opens(-1), -1);
        Check.due("share(0)", lid.share(0), 3);
        Check.due("share(1)", lid.share(1), 3);
        Check.due("share(2)", lid.share(2), 0);
        Check.due("share(3)", lid.share(3), -1);
        Check.due("share(-1)", lid.share(-1), -1);
        TightLid six = Check.kitchen("jv30s0;hp30;h;h;h;h;h");
        for (int hand = 0; hand < 6; hand++) {
            Check.due("one of six", six.share(hand), 120);
        }
        Check.due("of six by numbers", six.opens(63), 1);
        TightLid byNumbers = Check.kitchen("jv20s10;hp29;hp10");
        Check.due("the weak one comes behind", byNumbers.opens(3), 0);
        Check.due("so none has a share", byNumbers.share(0), 0);
        byNumbers.work(0);
        Check.due("from as it is", byNumbers.opens(1), 1);
        Check.due("share from as it is", byNumbers.share(0), 2);
        byNumbers.turn(0, -1, 0);
        Check.due("open: opens", byNumbers.opens(1), -1);
        Check.due("open: share", byNumbers.share(0), -1);
    }

    private static void cheapest() {
        TightLid lid = Check.kitchen("jv20s20;hp30;hp40;hp1;ta10c9;ta50c7;ta50c7;ta5c1");
        Check.due("the least cost of several", lid.cheapest(0), 1);
        Check.due("without", lid.cheapest(1), -1);
        Check.due("a strong tool", lid.cheapest(2), 1);
        Check.due("cheapest(3)", lid.cheapest(3), Check.HIDDEN);
        Check.due("cheapest(-1)", lid.cheapest(-1), Check.HIDDEN);
        Check.due("none does", Check.kitchen("jv90;h;t").cheapest(0), Check.HIDDEN);
        Check.due("a cost of 99", Check.kitchen("jv25;h;tc99").cheapest(0), 0);
        Check.due("no tools", Check.kitchen("jv25;h").cheapest(0), Check.HIDDEN);
        lid.turn(1, -1, 0);
        Check.due("open", lid.cheapest(1), Check.HIDDEN);
        Check.due("no kitchen", new TightLid().cheapest(0), Check.HIDDEN);
    }

    private static void safeAndEnough() {
        TightLid lid = Check.kitchen("jg50s20v20c2;jg99;h;ta9");
        Check.due("safe", lid.safe(), 50);
        Check.due("enough with a tool", lid.enough(0, 0), 20);
        Check.due("enough without", lid.enough(0, -1), 50);
        lid.heat(30);
        Check.due("safe then", lid.safe(), 20);
        Check.due("enough then", lid.enough(0, -1), 20);
        lid.heat(20);
        Check.due("safe: none", lid.safe(), 0);
        Check.due("enough: none", lid.enough(0, -1), 0);
        lid.table(1);
        Check.due("safe: 60 at most", lid.safe(), 60);
        Check.due("enough(1, ..)", lid.enough(1, -1), -1);
        Check.due("enough(.., 1)", lid.enough(0, 1), -1);
        Check.due("enough(.., -2)", lid.enough(0, -2), -1);
        Check.due("not with 60", Check.kitchen("jg99s43;h").enough(0, -1), -1);
        Check.due("with 60", Check.kitchen("jg99s22;h").enough(0, -1), 60);
        Check.due("cracked before", Check.kitchen("jg59s22;h").enough(0, -1), -1);
        lid.turn(0, -1, 0);
        Check.due("open: safe", lid.safe(), -1);
        Check.due("open: enough", lid.enough(0, -1), -1);
        Check.due("no kitchen: safe", new TightLid().safe(), -1);
        Check.due("no kitchen: enough", new TightLid().enough(0, -1), -1);
    }

    private static void saves() {
        TightLid lid = Check.kitchen("jv20s15;jv30s15;hp30;hp25;hp35;ta10c9;ta50c10;ta0c3;ta50c0");
        saves(lid, 0, 3, 3, 1);
        saves(lid, 1, 5, 2, 1);
        saves(lid, 2, 0, -1, -1);
        saves(lid, 3, 5, 0, 1);
        saves(lid, 4, -1, -1, -1);
        saves(lid, -1, -1, -1, -1);
        Check.due("saves(0, 3)", lid.saves(0, 3), -1);
        Check.due("saves(0, -1)", lid.saves(0, -1), -1);
        lid.turn(2, -1, 0);
        lid.pause(10);
        saves(lid, 0, 3, 3, 1);
        saves(Check.kitchen("jv25;jv26;h;tc15"), 0, 2, 15, 2);
        saves(new TightLid(), 0, -1, -1, -1);
    }

    private static void saves(TightLid lid, int tool, int many, int above, int below) {
        Check.due("saves(" + tool + ", 0)", lid.saves(tool, 0), many);
        Check.due("saves(" + tool + ", 1)", lid.saves(tool, 1), above);
        Check.due("saves(" + tool + ", 2)", lid.saves(tool, 2), below);
    }

    private static void factories() {
        TightLid lid = Check.kitchen("jv90s10;jl1c3;hp30;hp40;hp99;t");
        Check.due("openers(0, 20)", lid.openers(0, 20), 3);
        Check.due("openers(0, 21)", lid.openers(0, 21), 2);
        Check.due("openers(0, 31)", lid.openers(0, 31), 1);
        Check.due("openers(0, 89)", lid.openers(0, 89), 1);
        Check.due("openers(0, 90)", lid.openers(0, 90), 0);
        Check.due("openers(1, 11)", lid.openers(1, 11), 3);
        Check.due("openers(1, 12)", lid.openers(1, 12), 2);
        Check.due("openers(0, 100)", lid.openers(0, 100), -1);
        Check.due("openers(0, -1)", lid.openers(0, -1), -1);
        Check.due("openers(2, 0)", lid.openers(2, 0), -1);
        Check.due("factory of all", lid.factory(0, 0, 100), 20);
        Check.due("factory of 67", lid.factory(0, 0, 67), 20);
        Check.due("factory of 66", lid.factory(0, 0, 66), 30);
        Check.due("factory of 1", lid.factory(0, 0, 1), 89);
        Check.due("factory of none", lid.factory(0, 0, 0), 99);
        Check.due("factory from 20", lid.factory(0, 20, 100), 20);
        Check.due("factory from 21", lid.factory(0, 21, 100), -1);
        Check.due("factory from 99", lid.factory(0, 99, 0), 99);
        Check.due("factory(2, ..)", lid.factory(2, 0, 0), -1);
        Check.due("factory least -1", lid.factory(0, -1, 0), -1);
        Check.due("factory least 100", lid.factory(0, 100, 0), -1);
        Check.due("factory share -1", lid.factory(0, 0, -1), -1);
        Check.due("factory share 101", lid.factory(0, 0, 101), -1);
        lid.work(0);
        lid.turn(0, -1, 0);
        Check.due("as told at first", lid.openers(0, 20), 3);
        Check.due("factory as told at first", lid.factory(0, 0, 100), 20);
        Check.text(lid, 1, "y:p/2");
        lid.law(0);
        Check.due("by the law that holds", lid.factory(0, 0, 100), 5);
        Check.due("no kitchen: openers", new TightLid().openers(0, 0), -1);
        Check.due("no kitchen: factory", new TightLid().factory(0, 0, 0), -1);
    }

    private static void nothingChanges() {
        TightLid lid = planned("jv60s30c3g20;jl1;hp40w3;hp30;ta30;ta5", "t;k;o;h;w;d0;y09", "h;h;h");
        lid.turn(0, -1, 0);
        lid.heat(5);
        String seen = Check.all(lid);
        lid.soonest(3, true, 0);
        lid.order(0);
        lid.run(0, 0);
        lid.run(1, 1);
        lid.best(true);
        lid.opens(3);
        lid.share(1);
        lid.cheapest(0);
        lid.safe();
        lid.enough(0, 0);
        lid.saves(0, 1);
        lid.openers(0, 5);
        lid.factory(0, 0, 50);
        lid.next(5);
        lid.who(3, 3);
        Check.same("nothing changes", Check.all(lid), seen);
    }
}
