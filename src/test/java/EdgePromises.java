import java.util.function.Supplier;

/** Promises 1 to 20, each sentence whole: what is refused in which state, and what is not. */
final class EdgePromises {
    private EdgePromises() {
    }

    static void all() {
        newObject();
        feed();
        end();
        fault();
        text();
        textOfKitchen();
        jar();
        hand();
        tool();
        law();
        step();
        grip();
        lacks();
        turn();
        heat();
        work();
        dry();
        pause();
        shut();
        table();
        undo();
    }

    private static TightLid texts() {
        TightLid lid = new TightLid();
        Check.text(lid, 1, "y:p+a");
        Check.text(lid, 1, "y:9");
        Check.text(lid, 2, "t;y09");
        Check.text(lid, 2, "h;h");
        return lid;
    }

    /** No KITCHEN, but all else that there can be. */
    static TightLid none() {
        TightLid lid = texts();
        lid.tried(9, false);
        Check.tape(lid, "xyz");
        return lid;
    }

    /** Two JARS, HANDS, TOOLS, LAWS and PLANS, an IMAGE, ACTS, something TRIED, bytes on the TAPE. */
    static TightLid closed() {
        TightLid lid = texts();
        Check.text(lid, 0, "jv40s40g12;jl1v0s5;hp50w2e3;hp20;ta9;ta30c3");
        lid.law(0);
        lid.turn(1, -1, 0);
        lid.image();
        lid.work(0);
        lid.pause(3);
        lid.tried(9, false);
        Check.tape(lid, "xyz");
        return lid;
    }

    static TightLid open() {
        TightLid lid = closed();
        lid.work(2);
        lid.turn(0, -1, 0);
        return lid;
    }

    static TightLid cracked() {
        TightLid lid = closed();
        lid.heat(13);
        return lid;
    }

    /** The JAR that is not on the TABLE is OPEN or CRACKED: that refuses nothing. */
    static TightLid other(TightLid lid) {
        lid.table(1);
        return lid;
    }

    private static void newObject() {
        Edge.says("`TightLid()`: No KITCHEN.");
        TightLid lid = new TightLid();
        Edge.row("count", lid::count, 0, 0, 0, 0, 0, 0, -1, 0, -1, 0, 0, 0);
        Edge.due("jar", Check.jar(lid, 0, 0), Check.THROWN);
        Edge.due("hand", lid.hand(0, 0), -1);
        Edge.due("tool", lid.tool(0, 0), -1);
        Edge.due("step", lid.step(0, 0), -1);
        Edge.due("log", lid.log(0, 0), -1);
        Edge.due("undo", lid.undo(), -1);
        Edge.due("back", lid.back(), -1);
        Edge.due("fault", lid.fault(0), 0);
    }

    private static void feed() {
        Edge.says("`int feed(int a, int b, int c, int d, int e)`: Twenty bytes more come to the TAPE (of each number the highest"
                + " first; bytes of 0 are left out): how many it has. NONE: more than 200.");
        TightLid lid = new TightLid();
        Edge.due("twenty zeros", lid.feed(0, 0, 0, 0, 0), 0);
        Edge.due("one byte", lid.feed(0, 0, 0, 0, 1), 1);
        Edge.due("the highest bits", lid.feed(0x80000000, 0x00800000, 0x00008000, 0x00000080, -1), 9);
        TightLid order = new TightLid();
        order.feed(0x6A763132, 0x3B687033, 0x34000000, 0, 0);
        order.text(0);
        Edge.due("the highest first: jv12", Check.jar(order, 0, 0), 12);
        Edge.due("then b, c: hp34", order.hand(0, 0), 34);
        TightLid places = new TightLid();
        places.feed('j', ';', 'h', 'p', '7');
        places.text(0);
        Edge.due("a to e", places.hand(0, 0), 7);
        TightLid left = new TightLid();
        left.feed(0x006A0000, 0x3B000068, 0, 0x70003700, 0x00000038);
        left.text(0);
        Edge.due("zeros are left out: j;hp78", left.hand(0, 0), 78);
        for (int i = 1; i <= 10; i++) {
            TightLid full = full(20 * i - 1);
            Edge.due("one more of " + (20 * i - 1), full.feed(0x20000000, 0, 0, 0, 0), 20 * i);
        }
        Edge.refused(() -> full(200), "a 201st", x -> x.feed(0, 0, 1, 0, 0), -1);
        Edge.refused(() -> full(181), "twenty at 181", x -> x.feed(-1, -1, -1, -1, -1), -1);
        Edge.due("twenty at 180", full(180).feed(-1, -1, -1, -1, -1), 200);
        Edge.due("19 of 20 at 181", full(181).feed(-1, -1, -1, -1, -256), 200);
        Edge.due("none at 200", full(200).feed(0, 0, 0, 0, 0), 200);
        TightLid emptied = full(200);
        emptied.end(0);
        Edge.due("at none again", emptied.feed(-1, -1, -1, -1, -1), 20);
    }

    private static TightLid full(int bytes) {
        TightLid lid = new TightLid();
        Check.feed(lid, " ".repeat(bytes));
        return lid;
    }

    private static void end() {
        Edge.says("`boolean end(int n)`: The TAPE has its first n bytes alone. False: n.");
        Supplier<TightLid> made = () -> {
            TightLid lid = new TightLid();
            Check.feed(lid, "j;hp12");
            return lid;
        };
        Edge.refuses(made, "end(-1)", lid -> lid.end(-1));
        Edge.refuses(made, "end(7)", lid -> lid.end(7));
        Edge.refuses(TightLid::new, "end(1) of none", lid -> lid.end(1));
        Edge.due("end(0) of none", new TightLid().end(0), true);
        TightLid lid = made.get();
        Edge.due("end(6)", lid.end(6), true);
        Edge.due("all six", lid.count(5), 6);
        Edge.due("end(5)", lid.end(5), true);
        Edge.due("the sixth is gone", lid.end(6), false);
        lid.text(0);
        Edge.due("hp1", lid.hand(0, 0), 1);
        TightLid more = made.get();
        more.end(4);
        Check.feed(more, "7");
        more.text(0);
        Edge.due("what comes then stands behind", more.hand(0, 0), 7);
        Edge.due("end(0)", made.get().end(0), true);
        TightLid most = full(200);
        Edge.due("end(200) of 200", most.end(200), true);
        Edge.due("end(201) of 200", most.end(201), false);
    }

    private static void fault() {
        Edge.says("`int fault(int sort)`: The FAULT of the TAPE as a KITCHEN (0), a LAW (1), a PLAN (2). NONE: none."
                + " -2: no such sort.");
        int[][] want = {{-1, 0, 0}, {0, -1, 1}, {3, 0, -1}};
        String[] texts = {"j;h", "y:1", "t;t"};
        for (int i = 0; i < 3; i++) {
            TightLid lid = new TightLid();
            Check.feed(lid, texts[i]);
            for (int sort = 0; sort < 3; sort++) {
                int asked = sort;
                Edge.looks(lid, texts[i] + ": fault(" + sort + ")", () -> lid.fault(asked), want[i][sort]);
            }
            Edge.looks(lid, "fault(3)", () -> lid.fault(3), -2);
            Edge.looks(lid, "fault(-1)", () -> lid.fault(-1), -2);
        }
        TightLid again = new TightLid();
        Check.feed(again, "jx");
        Edge.due("a fault", again.fault(0), 1);
        again.end(1);
        Check.feed(again, ";h");
        Edge.due("none any more", again.fault(0), -1);
    }

    private static void text() {
        Edge.says("`int text(int sort)`: The TAPE (empty then) is the KITCHEN (all that was of another one is gone but LAWS,"
                + " PLANS; none holds; MINUTE 0): how many JARS; a LAW, a PLAN: its number. NONE: a FAULT, no such sort,"
                + " there are four.");
        for (int sort = -1; sort <= 3; sort++) {
            int asked = sort;
            Edge.refused(EdgePromises::closed, "a fault, or no such sort: " + sort, lid -> lid.text(asked), -1);
            Edge.refused(EdgePromises::none, "a fault, no kitchen: " + sort, lid -> lid.text(asked), -1);
            Edge.refused(TightLid::new, "an empty tape: " + sort, lid -> lid.text(asked), -1);
        }
        Supplier<TightLid> fifthLaw = () -> four(1, "y:7");
        Supplier<TightLid> fifthPlan = () -> four(2, "w");
        Edge.refused(fifthLaw, "a fifth law", lid -> lid.text(1), -1);
        Edge.refused(fifthPlan, "a fifth plan", lid -> lid.text(2), -1);
        Edge.due("but a plan", Check.text(fifthLaw.get(), 2, "t"), 0);
        Edge.due("but a law", Check.text(fifthPlan.get(), 1, "y:1"), 0);
        Edge.due("but a kitchen", Check.text(fifthPlan.get(), 0, "j;h"), 1);
        TightLid lid = new TightLid();
        String[] texts = {"j;j;j;h", "y:1", "t"};
        int[] want = {3, 0, 0};
        for (int sort = 0; sort < 3; sort++) {
            Edge.due("text(" + sort + ")", Check.text(lid, sort, texts[sort]), want[sort]);
            Edge.due("the tape is empty then", lid.count(5), 0);
            Edge.due("a second time it is a fault", lid.text(sort), -1);
        }
        Edge.due("four jars", Check.text(lid, 0, "j;j;j;j;h"), 4);
    }

    static TightLid four(int sort, String text) {
        TightLid lid = new TightLid();
        for (int i = 0; i < 4; i++) {
            Edge.due("number", Check.text(lid, sort, text), i);
        }
        Check.tape(lid, text);
        return lid;
    }

    /** All that was of another one, by what it could still be seen. */
    private static void textOfKitchen() {
        Supplier<TightLid> fresh = () -> {
            TightLid lid = texts();
            Check.text(lid, 0, "j;j;h;h;h;h;h;h;t");
            return lid;
        };
        Supplier<TightLid> another = () -> {
            TightLid lid = open();
            lid.table(1);
            lid.evening(40, 3L);
            lid.image();
            lid.law(1);
            lid.tried(50, true);
            Check.text(lid, 0, "j;j;h;h;h;h;h;h;t");
            return lid;
        };
        Edge.same("as the first one", Check.all(another.get()), Check.all(fresh.get()));
        TightLid lid = another.get();
        Edge.row("count", lid::count, 2, 6, 1, 2, 2, 0, 0, 0, -1, 0, 0, 0);
        Edge.due("none holds", lid.grip(0, 0, 0), 40);
        Edge.due("laws stay", lid.law(1), true);
        Edge.due("and are the same", lid.grip(0, 0, 0), 9);
        Edge.due("plans stay", lid.step(1, 1), 3);
        Edge.due("no act can be undone", lid.undo(), -1);
        Edge.due("there is no image", lid.back(), -1);
        Edge.due("there is no log", lid.log(0, 0), -1);
        Edge.due("tried is empty", lid.forgive(), false);
        Edge.due("and can be told anew", lid.tried(3, false), 1);
        for (int jar = 0; jar < 2; jar++) {
            for (int hand = 0; hand < 6; hand++) {
                Edge.due("nothing is loosened", lid.hand(hand, 6), 0);
            }
            lid.table(1);
        }
        TightLid fewer = another.get();
        Check.text(fewer, 0, "h;j");
        Edge.due("jars of another one are gone", Check.jar(fewer, 1, 0), Check.THROWN);
        Edge.due("hands", fewer.hand(1, 0), -1);
        Edge.due("tools", fewer.tool(0, 0), -1);
        TightLid weaker = Check.kitchen("j;h;ta99;ta99;ta99;ta99");
        weaker.soonest(3, true, 0);
        Check.text(weaker, 0, "jv60s30;h;ta1");
        Edge.due("tools do not help any more", weaker.soonest(3, false, 0), Check.HIDDEN);
        everyNumber();
    }

    /** As many as there can be, each with numbers of its own. */
    private static void everyNumber() {
        TightLid lid = Check.kitchen("jv11s21c1l1w1g31;jv12s22c2l0w2g32;jv13s23c3l1w3g33;jv14s24c4l0w4g34;"
                + "hp41s1w2t3e4;hp42s2w3t4e5;hp43s3w4t5e6;hp44s4w5t6e7;hp45s5w6t7e8;hp46s6w7t8e9;"
                + "ta51c61;ta52c62;ta53c63;ta54c64");
        for (int jar = 0; jar < 4; jar++) {
            int n = jar;
            Edge.row("jar " + jar, what -> Check.jar(lid, n, what), 11 + n, 21 + n, 1 + n, (n + 1) % 2, 1 + n, 31 + n,
                    0, 0, 0, 0, 34 + 4 * n);
        }
        for (int hand = 0; hand < 6; hand++) {
            int n = hand;
            Edge.row("hand " + hand, what -> lid.hand(n, what), 41 + n, 1 + n, 2 + n, 3 + n, 4 + n, 41 + n, 0);
        }
        for (int tool = 0; tool < 4; tool++) {
            int n = tool;
            Edge.row("tool " + tool, what -> lid.tool(n, what), 51 + n, 61 + n);
        }
    }

    private static void jar() {
        Edge.says("`int jar(int jar, int what) throws NoSuchElementException`: Of a JAR: 0 VACUUM, 1 STUCK, 2 COLD, 3 LEFT,"
                + " 4 WIDE, 5 GLASS, 6 APART, 7 HOLED, 8 OPEN, 9 CRACKED (1, 0), 10 HOLD."
                + " NoSuchElementException: no such ones.");
        TightLid lid = Check.kitchen("jv11s12c3l1w4g15;j;j;jv9;h");
        Edge.row("jar(0, ..)", what -> Check.jar(lid, 0, what), 11, 12, 3, 1, 4, 15, 0, 0, 0, 0, 29);
        Edge.row("jar(3, ..)", what -> Check.jar(lid, 3, what), 9, 10, 0, 0, 5, 40, 0, 0, 0, 0, 19);
        int[][] none = {{-1, 0}, {4, 0}, {0, -1}, {0, 11}, {4, 11}, {3, 11}, {-1, -1}, {Integer.MAX_VALUE, 0},
            {Integer.MIN_VALUE, 0}, {0, Integer.MAX_VALUE}, {0, Integer.MIN_VALUE}};
        for (int[] row : none) {
            Edge.looks(lid, "jar(" + row[0] + ", " + row[1] + ")", () -> Check.jar(lid, row[0], row[1]), Check.THROWN);
        }
        Edge.refused(EdgePromises::none, "no kitchen", x -> Check.jar(x, 0, 0), Check.THROWN);
        lid.heat(9);
        lid.work(2);
        Edge.row("then", what -> Check.jar(lid, 0, what), 0, 11, 3, 1, 4, 15, 9, 1, 0, 0, 17);
        lid.turn(0, -1, 1);
        Edge.row("open", what -> Check.jar(lid, 0, what), 0, 11, 3, 1, 4, 15, 9, 1, 1, 0, 17);
        lid.table(3);
        lid.heat(60);
        Edge.row("cracked", what -> Check.jar(lid, 3, what), 9, 0, 0, 0, 5, 40, 60, 0, 0, 1, 9);
    }

    private static void hand() {
        Edge.says("`int hand(int hand, int what)`: Of a HAND: 0 POWER, 1 SIZE, 2 WET, 3 TIRES, 4 SLIP, 5 POWER as told,"
                + " 6 what it LOOSENED of the JAR on the TABLE. NONE: no such ones.");
        TightLid lid = Check.kitchen("jv90;j;hp31s6w2t3e4;h;h;h;h;hp77t7");
        Edge.row("hand(0, ..)", what -> lid.hand(0, what), 31, 6, 2, 3, 4, 31, 0);
        Edge.row("hand(5, ..)", what -> lid.hand(5, what), 77, 5, 0, 7, 0, 77, 0);
        lid.turn(5, -1, 0);
        lid.turn(0, -1, 0);
        lid.dry(0);
        Edge.row("hand(0, ..) then", what -> lid.hand(0, what), 28, 6, 0, 3, 4, 31, 2);
        Edge.row("hand(5, ..) then", what -> lid.hand(5, what), 70, 5, 0, 7, 0, 77, 7);
        lid.table(1);
        Edge.due("of the other jar", lid.hand(5, 6), 0);
        int[][] none = {{-1, 0}, {6, 0}, {0, -1}, {0, 7}, {5, 7}, {6, 6}};
        for (int[] row : none) {
            Edge.looks(lid, "hand(" + row[0] + ", " + row[1] + ")", () -> lid.hand(row[0], row[1]), -1);
        }
        Edge.refused(EdgePromises::none, "no kitchen", x -> x.hand(0, 0), -1);
    }

    private static void tool() {
        Edge.says("`int tool(int tool, int what)`: Of a TOOL: ADDS (0), COST (1). NONE: no such ones.");
        TightLid lid = Check.kitchen("j;h;ta1c2;t;t;ta7c8");
        Edge.row("tool(0, ..)", what -> lid.tool(0, what), 1, 2);
        Edge.row("tool(1, ..)", what -> lid.tool(1, what), 10, 5);
        Edge.row("tool(3, ..)", what -> lid.tool(3, what), 7, 8);
        int[][] none = {{-1, 0}, {4, 0}, {0, -1}, {0, 2}, {9, 0}, {-1, 1}};
        for (int[] row : none) {
            Edge.looks(lid, "tool(" + row[0] + ", " + row[1] + ")", () -> lid.tool(row[0], row[1]), -1);
        }
        Edge.due("of none", Check.kitchen("j;h").tool(0, 0), -1);
        Edge.refused(EdgePromises::none, "no kitchen", x -> x.tool(0, 0), -1);
    }

    private static void law() {
        Edge.says("`boolean law(int law)`: The LAW that holds (NONE: none). False: no such one, no KITCHEN.");
        Edge.refuses(EdgePromises::closed, "law(-2)", lid -> lid.law(-2));
        Edge.refuses(EdgePromises::closed, "law(2)", lid -> lid.law(2));
        Edge.refuses(EdgePromises::none, "no kitchen: law(0)", lid -> lid.law(0));
        Edge.refuses(EdgePromises::none, "no kitchen: law(NONE)", lid -> lid.law(-1));
        Edge.refuses(() -> Check.kitchen("j;h"), "law(0) of none", lid -> lid.law(0));
        Edge.due("law(NONE) of none", Check.kitchen("j;h").law(-1), true);
        TightLid lid = closed();
        Edge.due("0 holds", lid.count(8), 0);
        Edge.due("again", lid.law(0), true);
        Edge.due("law(1)", lid.law(1), true);
        Edge.due("it holds", lid.grip(0, -1, 0), 9);
        Edge.due("count(8)", lid.count(8), 1);
        Edge.due("law(NONE)", lid.law(-1), true);
        Edge.due("none holds", lid.grip(0, -1, 0), 42);
        Edge.due("count(8) then", lid.count(8), -1);
        Edge.due("is no act", lid.count(10), 3);
        lid.law(1);
        lid.undo();
        Edge.due("and not undone", lid.count(8), 1);
        Edge.due("by an open jar", open().law(-1), true);
        Edge.due("by a cracked jar", cracked().law(1), true);
    }

    private static void step() {
        Edge.says("`int step(int plan, int i)`: A STEP of a PLAN: its number as for SOONEST (a HAND, a TOOL as told)."
                + " NONE: no such ones.");
        TightLid lid = new TightLid();
        Check.text(lid, 2, "t;k;o;h;w;d0;d9;y00;y09;y98;y99");
        Edge.row("step(0, ..)", i -> lid.step(0, i), 0, 1, 2, 3, 4, 10, 19, 100, 109, 198, 199, -1);
        Check.text(lid, 2, "w");
        Edge.row("step(1, ..)", i -> lid.step(1, i), 4, -1);
        int[][] none = {{-1, 0}, {2, 0}, {0, -1}, {1, 10}, {4, 0}, {0, 16}};
        for (int[] row : none) {
            Edge.looks(lid, "step(" + row[0] + ", " + row[1] + ")", () -> lid.step(row[0], row[1]), -1);
        }
        Edge.due("of no plans", new TightLid().step(0, 0), -1);
        Edge.row("of four plans", plan -> four(2, "w").step(plan, 0), 4, 4, 4, 4, -1);
    }

    private static void grip() {
        Edge.says("`int grip(int hand, int tool, int jar)`: GRIP (tool NONE: none). NONE: no such ones.");
        int[][] none = {{-1, 0, 0}, {2, 0, 0}, {0, -2, 0}, {0, 2, 0}, {0, 9, 0}, {0, 0, -1}, {0, 0, 2}};
        for (int[] row : none) {
            String call = "grip(" + row[0] + ", " + row[1] + ", " + row[2] + ")";
            Edge.refused(EdgePromises::closed, call, lid -> lid.grip(row[0], row[1], row[2]), -1);
        }
        Edge.refused(EdgePromises::none, "no kitchen", lid -> lid.grip(0, -1, 0), -1);
        Edge.due("none", closed().grip(0, -1, 0), 50);
        Edge.due("the first", closed().grip(0, 0, 1), 59);
        Edge.due("the last", closed().grip(1, 1, 1), 50);
        Edge.due("on an open one", open().grip(1, -1, 0), 20);
        Edge.due("on a cracked one", cracked().grip(1, -1, 0), 20);
    }

    private static void lacks() {
        Edge.says("`int lacks(int hand, int tool, int jar)`: LACKS (likewise). NONE: no such ones, the JAR is OPEN or CRACKED.");
        int[][] none = {{-1, 0, 0}, {2, 0, 0}, {0, -2, 0}, {0, 2, 0}, {0, 9, 0}, {0, 0, -1}, {0, 0, 2}};
        for (int[] row : none) {
            String call = "lacks(" + row[0] + ", " + row[1] + ", " + row[2] + ")";
            Edge.refused(EdgePromises::closed, call, lid -> lid.lacks(row[0], row[1], row[2]), -1);
        }
        Edge.refused(EdgePromises::none, "no kitchen", lid -> lid.lacks(0, -1, 0), -1);
        Edge.refused(EdgePromises::open, "open", lid -> lid.lacks(0, -1, 0), -1);
        Edge.refused(EdgePromises::cracked, "cracked", lid -> lid.lacks(0, -1, 0), -1);
        Edge.due("of 75", closed().lacks(0, -1, 0), 25);
        Edge.due("with a tool", closed().lacks(0, 1, 0), 0);
        Edge.due("the other one beside an open one", open().lacks(1, -1, 1), 0);
        Edge.due("the other one beside a cracked one", cracked().lacks(1, -1, 1), 0);
        Edge.due("an open one that is not on the table", other(open()).lacks(0, -1, 0), -1);
        Edge.due("a cracked one that is not on the table", other(cracked()).lacks(0, -1, 0), -1);
    }

    private static void turn() {
        Edge.says("`int turn(int hand, int tool, int side)`: A TRY (tool NONE: none): whether it is OPEN (1, 0)."
                + " NONE: no such ones, OPEN or CRACKED.");
        int[][] none = {{-1, 0, 0}, {2, 0, 0}, {0, -2, 0}, {0, 2, 0}, {0, 9, 0}, {0, 0, -1}, {0, 0, 2}};
        for (int[] row : none) {
            String call = "turn(" + row[0] + ", " + row[1] + ", " + row[2] + ")";
            Edge.refused(EdgePromises::closed, call, lid -> lid.turn(row[0], row[1], row[2]), -1);
        }
        Edge.refused(EdgePromises::none, "no kitchen", lid -> lid.turn(0, -1, 0), -1);
        Edge.refused(EdgePromises::open, "open", lid -> lid.turn(0, -1, 0), -1);
        Edge.refused(EdgePromises::cracked, "cracked", lid -> lid.turn(0, -1, 0), -1);
        Edge.due("not by a bare hand", closed().turn(0, -1, 0), 0);
        Edge.due("nor by the first tool", closed().turn(0, 0, 0), 0);
        Edge.due("by the second", closed().turn(0, 1, 0), 1);
        Edge.due("not to the wrong side", closed().turn(0, 1, 1), 0);
        Edge.due("another one than the open one", other(open()).turn(0, -1, 1), 1);
        Edge.due("another one than the cracked one", other(cracked()).turn(0, -1, 1), 1);
    }

    private static void heat() {
        Edge.says("`int heat(int n)`: HEAT: whether it is CRACKED (1, 0). NONE: out of bounds, no KITCHEN, OPEN or CRACKED.");
        int[] far = {-1, 0, 61, Integer.MAX_VALUE, Integer.MIN_VALUE};
        for (int n : far) {
            Edge.refused(EdgePromises::closed, "heat(" + n + ")", lid -> lid.heat(n), -1);
        }
        Edge.refused(EdgePromises::none, "no kitchen", lid -> lid.heat(1), -1);
        Edge.refused(EdgePromises::open, "open", lid -> lid.heat(1), -1);
        Edge.refused(EdgePromises::cracked, "cracked", lid -> lid.heat(1), -1);
        Edge.due("heat(1)", closed().heat(1), 0);
        Edge.due("heat(12)", closed().heat(12), 0);
        Edge.due("heat(13)", closed().heat(13), 1);
        Edge.due("heat(60)", closed().heat(60), 1);
        Edge.due("another one than the open one", other(open()).heat(40), 0);
        Edge.due("another one than the cracked one", other(cracked()).heat(41), 1);
    }

    private static void work() {
        Edge.says("`int work(int what)`: TAP (0), KNOCK (1), HOLE (2), FRIDGE (3): HOLD then. NONE: no such one, no KITCHEN,"
                + " OPEN or CRACKED.");
        int[] far = {-1, 4, Integer.MAX_VALUE, Integer.MIN_VALUE};
        for (int what : far) {
            Edge.refused(EdgePromises::closed, "work(" + what + ")", lid -> lid.work(what), -1);
        }
        int[] want = {72, 71, 35, 81};
        for (int i = 0; i < 4; i++) {
            int what = i;
            Edge.due("work(" + i + ")", closed().work(i), want[i]);
            Edge.refused(EdgePromises::none, "no kitchen", lid -> lid.work(what), -1);
            Edge.refused(EdgePromises::open, "open", lid -> lid.work(what), -1);
            Edge.refused(EdgePromises::cracked, "cracked", lid -> lid.work(what), -1);
        }
        Edge.due("another one than the open one", other(open()).work(0), 2);
        Edge.due("another one than the cracked one", other(cracked()).work(3), 11);
    }

    private static void dry() {
        Edge.says("`boolean dry(int hand)`: DRY. False: no such HAND.");
        int[] far = {-1, 2, 6, Integer.MAX_VALUE, Integer.MIN_VALUE};
        for (int hand : far) {
            Edge.refuses(EdgePromises::closed, "dry(" + hand + ")", lid -> lid.dry(hand));
        }
        Edge.refuses(EdgePromises::none, "no kitchen", lid -> lid.dry(0));
        Edge.due("the last one", closed().dry(1), true);
        Edge.due("by an open jar", open().dry(0), true);
        Edge.due("by a cracked jar", cracked().dry(0), true);
    }

    private static void pause() {
        Edge.says("`int pause(int n)`: WAIT: the MINUTE. NONE: no KITCHEN, out of bounds.");
        int[] far = {-1, 0, 61, Integer.MAX_VALUE, Integer.MIN_VALUE};
        for (int n : far) {
            Edge.refused(EdgePromises::closed, "pause(" + n + ")", lid -> lid.pause(n), -1);
        }
        Edge.refused(EdgePromises::none, "no kitchen", lid -> lid.pause(1), -1);
        Edge.due("pause(1)", closed().pause(1), 6);
        Edge.due("pause(60)", closed().pause(60), 65);
        Edge.due("by an open jar", open().pause(1), 8);
        Edge.due("by a cracked jar", cracked().pause(1), 7);
    }

    private static void shut() {
        Edge.says("`int shut(int hand)`: SHUT: HOLD then. NONE: no such HAND, the JAR is not OPEN.");
        int[] far = {-1, 2, 6, Integer.MAX_VALUE, Integer.MIN_VALUE};
        for (int hand : far) {
            Edge.refused(EdgePromises::open, "shut(" + hand + ")", lid -> lid.shut(hand), -1);
        }
        Edge.refused(EdgePromises::none, "no kitchen", lid -> lid.shut(0), -1);
        Edge.refused(EdgePromises::closed, "not open", lid -> lid.shut(0), -1);
        Edge.refused(EdgePromises::cracked, "cracked", lid -> lid.shut(0), -1);
        Edge.refused(() -> other(open()), "not the one on the table", lid -> lid.shut(0), -1);
        Edge.due("by hand 0", open().shut(0), 24);
        Edge.due("by hand 1", open().shut(1), 10);
        TightLid lid = open();
        lid.shut(1);
        Edge.looks(lid, "a second time", () -> lid.shut(1), -1);
    }

    private static void table() {
        Edge.says("`boolean table(int jar)`: A JAR on the TABLE. False: no such one, it is.");
        int[] far = {-1, 2, 4, Integer.MAX_VALUE, Integer.MIN_VALUE};
        for (int jar : far) {
            Edge.refuses(EdgePromises::closed, "table(" + jar + ")", lid -> lid.table(jar));
        }
        Edge.refuses(EdgePromises::none, "no kitchen", lid -> lid.table(0));
        Edge.refuses(EdgePromises::closed, "it is", lid -> lid.table(0));
        Edge.refuses(() -> other(closed()), "it is, the second", lid -> lid.table(1));
        TightLid lid = open();
        Edge.due("instead of an open one", lid.table(1), true);
        Edge.due("an open one", lid.table(0), true);
        Edge.due("instead of a cracked one", cracked().table(1), true);
        Edge.due("the fourth", Check.kitchen("j;j;j;j;h").table(3), true);
        Edge.due("one of one", Check.kitchen("j;h").table(0), false);
    }

    private static void undo() {
        Edge.says("`int undo()`: The latest ACT is UNDONE: how many still can be. NONE: none.");
        TightLid lid = closed();
        Edge.due("pause", lid.undo(), 2);
        Edge.due("its minutes", lid.count(7), 2);
        Edge.due("tap", lid.undo(), 1);
        Edge.due("stuck", Check.jar(lid, 0, 1), 38);
        Edge.due("try", lid.undo(), 0);
        Edge.due("loosened", lid.hand(1, 6), 0);
        Edge.looks(lid, "none", lid::undo, -1);
        Edge.refused(EdgePromises::none, "no kitchen", TightLid::undo, -1);
        TightLid open = open();
        open.undo();
        Edge.due("an open one is shut again", Check.jar(open, 0, 8), 0);
        TightLid broken = cracked();
        broken.undo();
        Edge.due("a cracked one is whole again", Check.jar(broken, 0, 9), 0);
    }
}
