/** Sentences of part 3 that name edges: what is sought apart, from as it is. */
final class EdgeSearches {
    private EdgeSearches() {
    }

    static void all() {
        apart();
        soonestBounds();
        soonestCodes();
        soonestLeast();
        orders();
        planRuns();
        bestPlans();
        sets();
        shares();
        cheapest();
        safe();
        enough();
        saves();
        openers();
        factory();
    }

    private static TightLid planned(String kitchen, String... plans) {
        TightLid lid = Check.kitchen(kitchen);
        for (int i = 0; i < plans.length; i++) {
            Edge.due("plan " + plans[i], Check.text(lid, 2, plans[i]), i);
        }
        return lid;
    }

    private static void apart() {
        Edge.says("(Apart, from as it is, the JAR on the TABLE.)");
        TightLid lid = planned("jv20s13g25;jv0s0;hp30;hp12;t", "t;y09", "h;h;h");
        lid.turn(1, -1, 0);
        lid.heat(9);
        lid.tried(9, false);
        Edge.looks(lid, "soonest", () -> lid.soonest(3, true, 0), 1);
        Edge.looks(lid, "order", () -> lid.order(0), 10);
        Edge.looks(lid, "run", () -> lid.run(0, 0), 2);
        Edge.looks(lid, "run that cracks", () -> lid.run(1, 1), 2);
        Edge.looks(lid, "best", () -> lid.best(true), 0);
        Edge.looks(lid, "opens", () -> lid.opens(3), 0);
        Edge.looks(lid, "share", () -> lid.share(0), 0);
        Edge.looks(lid, "cheapest", () -> lid.cheapest(0), 0);
        Edge.looks(lid, "safe", lid::safe, 16);
        Edge.looks(lid, "enough", () -> lid.enough(0, -1), 5);
        lid.table(1);
        Edge.looks(lid, "soonest of the other", () -> lid.soonest(3, true, 0), 1);
        Edge.looks(lid, "order of the other", () -> lid.order(0), 1);
        Edge.looks(lid, "run of the other", () -> lid.run(0, 0), 2);
        Edge.looks(lid, "opens the other", () -> lid.opens(2), 1);
        Edge.looks(lid, "safe of the other", lid::safe, 40);
        Edge.looks(lid, "enough for the other", () -> lid.enough(1, -1), 0);
    }

    private static void soonest(String kitchen, int k, boolean hole, int many, int first) {
        TightLid lid = Check.kitchen(kitchen);
        String call = kitchen + ": soonest(" + k + ", " + hole + ", ";
        Edge.looks(lid, call + "0)", () -> lid.soonest(k, hole, 0), many);
        Edge.looks(lid, call + "1)", () -> lid.soonest(k, hole, 1), first);
    }

    private static void soonestBounds() {
        Edge.says("SOONEST by k (1 .. 3) ACTS at most, with a HOLE or without");
        soonest("j;hp30", 0, true, Check.HIDDEN, Check.HIDDEN);
        soonest("j;hp30", 1, true, 1, 109);
        soonest("j;hp30", 3, true, 1, 109);
        soonest("j;hp30", 4, true, Check.HIDDEN, Check.HIDDEN);
        soonest("j;hp27", 1, true, Check.HIDDEN, Check.HIDDEN);
        soonest("j;hp27", 2, true, 2, 0);
        soonest("j;hp27", 3, true, 2, 0);
        soonest("jv8s0;hp0", 2, false, Check.HIDDEN, Check.HIDDEN);
        soonest("jv8s0;hp0", 3, false, 3, 1);
        soonest("jv9s0;hp0", 3, false, Check.HIDDEN, Check.HIDDEN);
        soonest("jv9s0;hp0", 3, true, 2, 2);
        soonest("jv99s3;hp0", 3, true, 3, 0);
        soonest("jv99s3;hp0", 3, false, Check.HIDDEN, Check.HIDDEN);
    }

    private static void soonestCodes() {
        Edge.says("0 TAP, 1 KNOCK, 2 HOLE, 3 HEAT of ten, 4 WAIT of ten, 10 and a HAND: DRY,"
                + " 100 and ten times a HAND and a TOOL (9: none): TRY on the right side");
        soonest("jv0s10;hp7", 2, true, 2, 0);
        soonest("jv10s0;hp6", 2, true, 2, 1);
        soonest("jv10s0;hp0", 2, true, 2, 2);
        soonest("jv0s0c1;hp1", 2, true, 2, 3);
        soonest("jv0s0c1g10;hp1", 2, true, 2, 3);
        soonest("jv0s0c1g9;hp1", 2, true, Check.HIDDEN, Check.HIDDEN);
        TightLid tired = Check.kitchen("jv40s2;hp49t9");
        tired.turn(0, -1, 1);
        tired.work(0);
        tired.work(0);
        Edge.due("power 40 against 40", tired.soonest(2, false, 1), 109);
        TightLid wait = Check.kitchen("jv0s50c0;hp60t9;hp0");
        waits(wait);
        soonest("jv0s20;hp20w3", 2, true, 2, 10);
        soonest("jv0s20;hp0;hp0;hp0;hp0;hp0;hp20w9", 2, true, 2, 15);
        soonest("jv50s10;hp60;ta0", 1, true, 1, 100);
        soonest("jv50s10;hp60", 1, true, 1, 109);
        soonest("jv50s10l1;hp60", 1, true, 1, 109);
        soonest("jv50s10;hp0;hp0;hp0;hp0;hp0;hp30;ta0;ta0;ta0;ta30", 1, true, 1, 153);
        TightLid bare = Check.kitchen("j;h;h;h;h;h;hp50;t;t;t;t");
        Check.text(bare, 1, "y:p=50&a=0?99;y:0");
        bare.law(0);
        Edge.due("the last of 41 acts", bare.soonest(1, true, 1), 159);
    }

    /** The hand is tired by 9; ten minutes of waiting alone bring it back. */
    private static void waits(TightLid lid) {
        lid.turn(0, -1, 1);
        lid.work(0);
        lid.work(3);
        lid.work(3);
        Edge.due("lacks", lid.lacks(0, -1, 0), 49 + 12 - (51 - 6));
        lid.heat(10);
        lid.heat(10);
        Edge.due("stuck 45, cold 4: hold 53 against 47", lid.lacks(0, -1, 0), 6);
        Edge.due("a wait: 56 against 53", lid.soonest(2, true, 0), 2);
        Edge.due("first", lid.soonest(2, true, 1), 4);
    }

    private static void soonestLeast() {
        Edge.says("the fewest by which it is OPEN; the first ACT of such a row (of several rows with so few the least ACT)");
        soonest("j;hp30;hp30;ta0", 3, true, 1, 100);
        soonest("j;hp29;hp30;ta0;ta1", 3, true, 1, 101);
        soonest("jv4s3;hp4", 3, true, 2, 0);
        soonest("jv4s3;hp3", 3, true, 2, 1);
        soonest("jv5s3;hp3", 3, true, 2, 2);
        soonest("jv5s3;hp3", 3, false, 3, 0);
        soonest("jv40s31;hp60t0", 3, false, 3, 109);
        soonest("jv40s32;hp60t0", 3, false, 3, 109);
        soonest("jv40s33;hp60t0", 3, false, Check.HIDDEN, Check.HIDDEN);
        soonest("jv60s1;hp60t1;hp20t0", 2, false, 2, 0);
        soonest("jv0s6;hp0", 3, false, 3, 0);
        soonest("jv40s16;hp45t0;hp45t0", 3, false, Check.HIDDEN, Check.HIDDEN);
        soonest("jv20s13;hp20;ta10", 2, false, 2, 0);
        soonest("jv20s13;hp20;ta0;ta0;ta0;ta10", 2, false, 2, 0);
        soonest("jv20s13;hp20;ta9;ta9;ta9;ta9", 2, false, 2, 1);
        soonest("jv30s22;hp50w3t3", 2, false, Check.HIDDEN, Check.HIDDEN);
        soonest("jv50s43;hp90w9t1", 2, false, Check.HIDDEN, Check.HIDDEN);
        soonest("jv3s0c3;hp12w1", 2, false, 2, 4);
        soonest("jv30s22c1w9;hp50s1;hp50s9", 2, false, 2, 3);
        soonest("jv20s13;hp0;ta30", 2, false, 2, 0);
        soonest("jv99s99;hp99;hp99;hp99;hp99;hp99;hp99;ta9;ta9;ta9;ta9", 3, false, Check.HIDDEN, Check.HIDDEN);
        TightLid nobody = Check.kitchen("j;h;h;t");
        Check.text(nobody, 1, "y:s=0?99;y:0");
        nobody.law(0);
        for (int k = 1; k <= 3; k++) {
            Edge.due("a hand that is not there does not try", nobody.soonest(k, true, 0), Check.HIDDEN);
        }
        soonestAgain();
    }

    /** Asked again of one object: nothing is left of what was asked ahead. */
    private static void soonestAgain() {
        TightLid lid = Check.kitchen("jv50s10;jv50s7w9;hp60;hp26s9;ta5");
        Check.text(lid, 1, "y:p/2");
        Check.text(lid, 1, "y:p-5-a");
        lid.table(1);
        Edge.due("too wide", lid.soonest(2, false, 0), 2);
        Edge.due("by a knock, with a tool", lid.soonest(2, false, 1), 1);
        Edge.due("with a hole", lid.soonest(2, true, 1), 1);
        lid.table(0);
        Edge.due("the other one at once", lid.soonest(2, false, 1), 100);
        lid.law(0);
        Edge.due("by half", lid.soonest(2, false, 0), Check.HIDDEN);
        Edge.due("by half with a hole", lid.soonest(2, true, 1), 2);
        Edge.due("without again", lid.soonest(3, false, 0), Check.HIDDEN);
        lid.law(1);
        lid.table(1);
        Edge.due("bare hands are better", lid.soonest(2, false, 1), 0);
        lid.law(-1);
        Edge.due("no law again", lid.soonest(2, false, 1), 1);
        TightLid tires = Check.kitchen("jv30s25;hp5t5");
        Check.text(tires, 1, "y:p*10");
        tires.law(0);
        Edge.due("50 against 55, then none", tires.soonest(2, false, 0), Check.HIDDEN);
    }

    private static void orders() {
        Edge.says("ORDER: each HAND tries once, without TOOLS, till it is OPEN: the order (digits, each HAND once, the first"
                + " the highest) by which it is OPEN behind the fewest tries (of several the least); how many.");
        order("j;hp30;ta99", 0, 1);
        order("j;hp29;ta99", -1, -1);
        order("j;hp29;hp25", 10, 2);
        order("j;hp25;hp29", 1, 2);
        order("j;hp10;hp60;hp60", 102, 1);
        order("j;hp60;hp60;hp60", 12, 1);
        order("jv40s3;hp40t0;hp10;hp10;hp10", 1230, 4);
        order("jv40s4;hp40t0;hp10;hp10;hp10", -1, -1);
        order("j;hp30;h;h;h;h;h", 12345, 1);
        order("j;hp0;hp0;hp0;hp0;hp0;hp30", 501234, 1);
        order("jv50s5;hp51;hp10;hp10;hp10;hp10;hp10", 123405, 5);
        order("jv50s5l1;hp55", 0, 1);
        order("jv0s9;hp8t0", -1, -1);
        order("j;hp18;hp28", -1, -1);
        order("jv30s0;hp10;hp29", -1, -1);
    }

    private static void order(String kitchen, int digits, int many) {
        TightLid lid = Check.kitchen(kitchen);
        Edge.looks(lid, kitchen + ": order(0)", () -> lid.order(0), digits);
        Edge.looks(lid, kitchen + ": order(1)", () -> lid.order(1), many);
    }

    private static void run(TightLid lid, int plan, int open, int cracked, int minutes) {
        Edge.looks(lid, "run(" + plan + ", 0)", () -> lid.run(plan, 0), open);
        Edge.looks(lid, "run(" + plan + ", 1)", () -> lid.run(plan, 1), cracked);
        Edge.looks(lid, "run(" + plan + ", 2)", () -> lid.run(plan, 2), minutes);
    }

    private static void planRuns() {
        Edge.says("PLAN run: behind how many STEPS it is OPEN; or CRACKED.");
        TightLid lid = planned("jv20s13g20;hp30", "t;y09;y09;w", "h;h;t;h;t", "w;w;w", "t;t;t;t;t;t;t;t;t;t;t;t;t;t;t;y09");
        run(lid, 0, 2, -1, 2);
        run(lid, 1, -1, 4, 4);
        run(lid, 2, -1, -1, 30);
        run(lid, 3, 16, -1, 16);
        TightLid first = planned("jv0s0g9;hp0", "y09", "h", "d7;y77;y09");
        run(first, 0, 1, -1, 1);
        run(first, 1, -1, 1, 1);
        run(first, 2, 3, -1, 1);
    }

    private static void bestPlans() {
        Edge.says("BEST PLAN: the one by which it is OPEN behind the fewest MINUTES (of several the lowest),"
                + " CRACKED or not OPEN at its end do not count; those with a HOLE too, or not.");
        TightLid several = planned("jv20s10;hp30", "t;y09", "y09", "y09;w", "y09");
        Edge.looks(several, "of several the lowest", () -> several.best(true), 1);
        TightLid minutes = planned("jv20s10g9;hp28", "w;t;y09", "t;t;t;t;y09", "h", "t;t");
        Edge.looks(minutes, "the fewest minutes, not steps", () -> minutes.best(true), 1);
        TightLid none = planned("jv20s10g9;hp28", "w", "h;y09", "t;t", "y09");
        Edge.looks(none, "cracked, or not open", () -> none.best(true), -1);
        TightLid holes = planned("jv50s10;hp28;hp60", "o;y09", "t;t;y19", "y19;o");
        Edge.looks(holes, "with a hole too", () -> holes.best(true), 2);
        Edge.looks(holes, "a hole behind the end is not done", () -> holes.best(false), 2);
        TightLid hole = planned("jv50s10;hp28;hp60", "o;y09", "t;t;y19");
        Edge.looks(hole, "with a hole", () -> hole.best(true), 0);
        Edge.looks(hole, "without", () -> hole.best(false), 1);
        TightLid four = planned("jv50s10;hp28;hp60", "w", "o", "t", "t;t;y19");
        Edge.looks(four, "the fourth", () -> four.best(false), 3);
        TightLid nothing = planned("j;hp30", "d9;d9;y09", "t;y09");
        Edge.looks(nothing, "steps that do nothing take none", () -> nothing.best(true), 0);
    }

    private static void sets() {
        Edge.says("SHARES: for a set of HANDS: whether it is OPEN, if these try once each by numbers without TOOLS.");
        TightLid lid = Check.kitchen("j;hp25;hp28;hp15;ta99");
        int[] want = {0, 0, 0, 1, 0, 0, 0, 1};
        Edge.row("opens", set -> lid.opens(set), want);
        TightLid byNumbers = Check.kitchen("j;hp29;hp25");
        Edge.due("by numbers, not by the best order", byNumbers.opens(3), 0);
        TightLid once = Check.kitchen("jv29s10;hp39t0;hp30");
        Edge.due("each alone", once.opens(1), 1);
        Edge.due("once", Check.kitchen("jv39s1;hp39t0").opens(1), 0);
        TightLid six = Check.kitchen("jv30s0;h;hp0;hp0;hp0;hp0;h");
        Edge.due("the empty set", six.opens(0), 0);
        Edge.due("the sixth alone", six.opens(32), 1);
        Edge.due("all but those", six.opens(30), 0);
        Edge.due("all", six.opens(63), 1);
        TightLid open = Check.kitchen("jv0s0;hp0");
        Edge.due("nobody opens one without hold", open.opens(0), 0);
        Edge.due("somebody does", open.opens(1), 1);
    }

    private static void shares() {
        Edge.says("A HAND's SHARE: of all orders in which all HANDS could come together (of n HANDS n! many) in how many"
                + " the set of those up to this one opens it, the set without it not.");
        shares("j;hp30", 1);
        shares("j;hp29", 0);
        shares("j;hp30;hp30", 1, 1);
        shares("j;hp30;hp0", 2, 0);
        shares("j;hp25;hp28;hp15", 3, 3, 0);
        shares("j;h;h;h;h;h;h", 120, 120, 120, 120, 120, 120);
        shares("j;h;hp0;hp0;hp0;hp0;hp0", 720, 0, 0, 0, 0, 0);
        shares("jv40s5;hp10;hp10;hp10;hp10;hp10;hp40", 120, 120, 120, 120, 120, 120);
        shares("j;hp29;hp25", 0, 0);
        shares("j;hp18;hp28", 0, 0);
        shares("jv30s0;hp10;hp29", 0, 0);
    }

    private static void shares(String kitchen, int... want) {
        TightLid lid = Check.kitchen(kitchen);
        for (int hand = 0; hand < want.length; hand++) {
            int who = hand;
            Edge.looks(lid, kitchen + ": share(" + hand + ")", () -> lid.share(who), want[hand]);
        }
    }

    private static void cheapest() {
        Edge.says("CHEAPEST: the TOOL with the least COST with which a HAND's next TRY opens it (of several the lowest;"
                + " NONE: without a TOOL it does).");
        TightLid lid = Check.kitchen("j;hp29;hp30;hp25;hp20;hp19;ta1c9;ta5c7;ta10c7;ta10c8");
        Edge.row("cheapest of hand", hand -> lid.cheapest(hand), 1, -1, 1, 2, Check.HIDDEN);
        Edge.due("a cost of 0", Check.kitchen("j;hp29;ta1c1;ta1c0;ta1c0").cheapest(0), 1);
        Edge.due("a cost of 99", Check.kitchen("j;hp29;ta0c0;ta1c99").cheapest(0), 1);
        Edge.due("the last of four", Check.kitchen("j;hp0;tc0;tc0;tc0;ta30c99").cheapest(0), 3);
        TightLid tired = Check.kitchen("jv30s2;hp32t2;ta2c6;ta1c5");
        Edge.due("the next try, bare", tired.cheapest(0), -1);
        tired.turn(0, -1, 1);
        Edge.due("when it is tired", tired.cheapest(0), Check.HIDDEN);
        tired.work(0);
        Edge.due("and tapped", tired.cheapest(0), 1);
    }

    private static void safe() {
        Edge.says("SAFE: the most seconds of one HEAT (0 .. 60) that do not crack it.");
        int[][] rows = {{1, 1}, {2, 2}, {40, 40}, {59, 59}, {60, 60}, {61, 60}, {99, 60}};
        for (int[] row : rows) {
            TightLid lid = Check.kitchen("jg" + row[0] + ";h");
            Edge.looks(lid, "glass " + row[0], lid::safe, row[1]);
            Edge.due("that many do not", lid.heat(row[1]), 0);
        }
        TightLid lid = Check.kitchen("jg5;h");
        lid.heat(4);
        Edge.due("one is left", lid.safe(), 1);
        lid.heat(1);
        Edge.due("none is left", lid.safe(), 0);
        lid.pause(2);
        Edge.due("behind a wait", lid.safe(), 4);
    }

    private static void enough() {
        Edge.says("ENOUGH: the fewest seconds of one HEAT (0 .. 60; 0: none) behind which a HAND with a TOOL opens it"
                + " by a TRY, not CRACKED.");
        enough("j;hp30", 0);
        enough("j;hp29", 5);
        enough("j;hp28", 10);
        enough("jg5;hp29", 5);
        enough("jg4;hp29", -1);
        enough("jg99s22;hp30", 60);
        enough("jg99s23;hp30", -1);
        enough("jg60s22;hp30", 60);
        enough("jg59s22;hp30", -1);
        enough("jv0s0c1;hp1", 10);
        enough("jv0s0c6g99;hp0", 60);
        enough("jv0s0c7g99;hp0", -1);
        enough("jv1s0c6g99;hp0", -1);
        TightLid lid = Check.kitchen("jg40;hp20;ta9;ta8");
        Edge.due("with a tool", lid.enough(0, 0), 5);
        Edge.due("with another", lid.enough(0, 1), 10);
        Edge.due("without", lid.enough(0, -1), -1);
        lid.heat(33);
        Edge.due("stuck is less, apart more", lid.enough(0, 1), 0);
        TightLid near = Check.kitchen("jg40;hp29");
        near.heat(4);
        near.heat(4);
        near.heat(4);
        Edge.due("12 apart, 28 are left", near.enough(0, -1), 5);
        near.heat(4);
        near.heat(4);
        near.heat(4);
        near.heat(4);
        near.heat(4);
        near.heat(4);
        Edge.due("36 apart, 4 are left", near.enough(0, -1), -1);
    }

    private static void enough(String kitchen, int want) {
        TightLid lid = Check.kitchen(kitchen);
        Edge.looks(lid, kitchen + ": enough", () -> lid.enough(0, -1), want);
    }

    private static void saves() {
        Edge.says("SAVES of a TOOL: pairs of a HAND and a JAR (both as told at first) that a first TRY opens with it"
                + " and not without; PRICE of one: COST by how many, a fraction made plain.");
        saves("j;hp30;ta99c9", 0, -1, -1);
        saves("j;hp29;ta0c9", 0, -1, -1);
        saves("j;hp29;ta1c9", 1, 9, 1);
        saves("j;hp29;ta1c0", 1, 0, 1);
        saves("j;j;hp29;ta1c9", 2, 9, 2);
        saves("j;j;hp29;ta1c8", 2, 4, 1);
        saves("j;j;hp29;ta1c0", 2, 0, 1);
        saves("j;j;j;j;hp29;hp29;hp29;hp29;hp29;hp29;ta1c99", 24, 33, 8);
        saves("j;j;j;j;hp29;hp29;hp29;hp29;hp29;hp29;ta1c96", 24, 4, 1);
        saves("j;jv21;jv22;hp29;hp30;ta1c5", 2, 5, 2);
        saves("jv99;jv99;jv99;jv99;hp1;hp1;ta10c5", 0, -1, -1);
        TightLid lid = Check.kitchen("jl1;hp29t9w1;ta5c3");
        Edge.due("at first", lid.saves(0, 0), 1);
        lid.turn(0, -1, 0);
        lid.turn(0, -1, 0);
        lid.dry(0);
        Edge.due("power and stuck now do not matter", lid.saves(0, 0), 1);
        lid.pause(60);
        lid.work(2);
        lid.turn(0, -1, 1);
        Edge.due("nor that it is open", lid.saves(0, 0), 1);
    }

    private static void saves(String kitchen, int many, int above, int below) {
        TightLid lid = Check.kitchen(kitchen);
        Edge.looks(lid, kitchen + ": saves(0, 0)", () -> lid.saves(0, 0), many);
        Edge.looks(lid, kitchen + ": saves(0, 1)", () -> lid.saves(0, 1), above);
        Edge.looks(lid, kitchen + ": saves(0, 2)", () -> lid.saves(0, 2), below);
    }

    private static void openers() {
        Edge.says("OPENERS: how many HANDS (as told at first, without TOOLS) open by a first TRY a JAR"
                + " (as told, but with so much VACUUM).");
        TightLid lid = Check.kitchen("jv90s10;jl1c3;hp30;hp40;hp99;hp0;hp9;hp10;ta99");
        int[][] rows = {{0, 0, 4}, {0, 1, 3}, {0, 20, 3}, {0, 21, 2}, {0, 30, 2}, {0, 31, 1}, {0, 89, 1}, {0, 90, 0},
            {0, 99, 0}, {1, 11, 3}, {1, 12, 2}};
        for (int[] row : rows) {
            Edge.looks(lid, "openers(" + row[0] + ", " + row[1] + ")", () -> lid.openers(row[0], row[1]), row[2]);
        }
        Edge.due("one of one", Check.kitchen("js0;hp0").openers(0, 0), 1);
        Edge.due("six of six", Check.kitchen("js0;j;j;j;hp0;hp0;hp0;hp0;hp0;hp0").openers(0, 0), 6);
        lid.work(0);
        lid.work(3);
        lid.turn(0, -1, 0);
        lid.heat(60);
        for (int[] row : rows) {
            Edge.looks(lid, "later: openers(" + row[0] + ", " + row[1] + ")", () -> lid.openers(row[0], row[1]), row[2]);
        }
    }

    private static void factory() {
        Edge.says("FACTORY: the most VACUUM (from a least one on, to 99) with which of 100 HANDS as many as told, or more,"
                + " are OPENERS (their number times 100 no less than that of all times the share).");
        TightLid lid = Check.kitchen("jv0s10;jc9s99;js0;hp30;hp40;hp99");
        int[][] rows = {{0, 0, 0, 99}, {0, 0, 1, 89}, {0, 0, 33, 89}, {0, 0, 34, 30}, {0, 0, 66, 30}, {0, 0, 67, 20},
            {0, 0, 100, 20}, {0, 20, 100, 20}, {0, 21, 100, -1}, {0, 99, 0, 99}, {0, 99, 1, -1}, {0, 89, 1, 89},
            {0, 90, 1, -1}, {1, 0, 1, -1}, {1, 0, 0, 99}, {2, 99, 33, 99}, {2, 0, 34, 40}};
        for (int[] row : rows) {
            Edge.looks(lid, "factory(" + row[0] + ", " + row[1] + ", " + row[2] + ")",
                    () -> lid.factory(row[0], row[1], row[2]), row[3]);
        }
        lid.turn(0, -1, 0);
        lid.table(2);
        lid.heat(60);
        Edge.due("as told at first", lid.factory(0, 0, 100), 20);
        Edge.due("of 100 all", Check.kitchen("js0;hp0").factory(0, 0, 100), 0);
        Edge.due("at 0 even none", Check.kitchen("js1;hp0").factory(0, 0, 100), -1);
    }
}
