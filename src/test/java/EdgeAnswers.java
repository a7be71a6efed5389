import java.util.function.Supplier;
import java.util.function.ToIntFunction;

/** Promises 21 to 44, each sentence whole: what is refused in which state, and what is not. */
final class EdgeAnswers {
    private static final int FAR = Integer.MAX_VALUE;
    private static final int DEEP = Integer.MIN_VALUE;

    private EdgeAnswers() {
    }

    static void all() {
        soonest();
        order();
        run();
        best();
        opens();
        share();
        cheapest();
        safe();
        enough();
        saves();
        openers();
        factory();
        tried();
        forgive();
        tight();
        next();
        who();
        lefties();
        evening();
        perform();
        log();
        image();
        back();
        count();
        nothingChanges();
        calls();
    }

    /** Without a KITCHEN, with an OPEN and with a CRACKED one on the TABLE. */
    private static void refusedInAll(String call, ToIntFunction<TightLid> answer, int want) {
        Edge.refused(EdgePromises::none, "no kitchen: " + call, answer, want);
        Edge.refused(TightLid::new, "a new object: " + call, answer, want);
        Edge.refused(EdgePromises::open, "open: " + call, answer, want);
        Edge.refused(EdgePromises::cracked, "cracked: " + call, answer, want);
    }

    private static void refused(String call, ToIntFunction<TightLid> answer, int want) {
        Edge.refused(EdgePromises::closed, call, answer, want);
    }

    private static TightLid byOpen() {
        return EdgePromises.other(EdgePromises.open());
    }

    private static TightLid byCracked() {
        return EdgePromises.other(EdgePromises.cracked());
    }

    private static void soonest() {
        Edge.says("`int soonest(int k, boolean hole, int what)`: SOONEST: how many (0; 0: it is OPEN), the first (1; NONE"
                + " with 0). HIDDEN: it can't be, out of bounds, no KITCHEN, CRACKED.");
        int hidden = Check.HIDDEN;
        int[] far = {-1, 0, 4, FAR, DEEP};
        for (int k : far) {
            refused("soonest(" + k + ")", lid -> lid.soonest(k, true, 0), hidden);
            Edge.refused(EdgePromises::open, "open: soonest(" + k + ")", lid -> lid.soonest(k, true, 0), hidden);
        }
        int[] what = {-1, 2, FAR, DEEP};
        for (int w : what) {
            refused("soonest's what " + w, lid -> lid.soonest(3, true, w), hidden);
            Edge.refused(EdgePromises::open, "open: what " + w, lid -> lid.soonest(3, true, w), hidden);
        }
        for (int k = 1; k <= 3; k++) {
            int most = k;
            Edge.refused(EdgePromises::open, "open: how many", lid -> lid.soonest(most, false, 0), 0);
            Edge.refused(EdgePromises::open, "open: the first", lid -> lid.soonest(most, false, 1), -1);
            for (int w = 0; w <= 1; w++) {
                int asked = w;
                Edge.refused(EdgePromises::none, "no kitchen", lid -> lid.soonest(most, true, asked), hidden);
                Edge.refused(EdgePromises::cracked, "cracked", lid -> lid.soonest(most, true, asked), hidden);
                Edge.refused(() -> Check.kitchen("jv99s99;hp0"), "it can't be", lid -> lid.soonest(most, true, asked), hidden);
            }
        }
        refused("how many", lid -> lid.soonest(3, true, 0), 1);
        refused("the first", lid -> lid.soonest(3, true, 1), 101);
        Edge.due("beside an open one", byOpen().soonest(1, false, 1), 100);
        Edge.due("beside a cracked one", byCracked().soonest(1, false, 0), 1);
    }

    private static void order() {
        Edge.says("`int order(int what)`: ORDER: digits (0), how many (1). NONE: no order opens it, OPEN or CRACKED, no KITCHEN,"
                + " no such what.");
        int[] far = {-1, 2, FAR, DEEP};
        for (int what : far) {
            Edge.refused(() -> Check.kitchen("j;h"), "order(" + what + ")", lid -> lid.order(what), -1);
        }
        for (int w = 0; w <= 1; w++) {
            int what = w;
            refusedInAll("order(" + w + ")", lid -> lid.order(what), -1);
            refused("no order opens it", lid -> lid.order(what), -1);
            Edge.due("beside an open one", byOpen().order(w), 1);
            Edge.due("beside a cracked one", byCracked().order(w), 1);
            Edge.due("one hand", Check.kitchen("j;h").order(w), w);
        }
    }

    private static void run() {
        Edge.says("`int run(int plan, int what)`: PLAN run: OPEN (what 0), CRACKED (1), MINUTES till either, or to its end (2)."
                + " NONE: not so, no such ones, no KITCHEN, OPEN or CRACKED.");
        int[] plans = {-1, 2, 4, FAR, DEEP};
        int[] far = {-1, 3, FAR, DEEP};
        for (int w = 0; w <= 2; w++) {
            int what = w;
            for (int plan : plans) {
                refused("run(" + plan + ", " + what + ")", lid -> lid.run(plan, what), -1);
            }
            refusedInAll("run(0, " + w + ")", lid -> lid.run(0, what), -1);
        }
        for (int what : far) {
            refused("run(0, " + what + ")", lid -> lid.run(0, what), -1);
            refused("run(1, " + what + ")", lid -> lid.run(1, what), -1);
            Edge.due("of one that opens", byOpen().run(0, what), -1);
        }
        TightLid four = EdgePromises.four(2, "w");
        Check.text(four, 0, "j;h");
        Edge.row("of four plans", plan -> four.run(plan, 2), 10, 10, 10, 10, -1);
        refused("not open", lid -> lid.run(0, 0), -1);
        refused("not cracked", lid -> lid.run(0, 1), -1);
        refused("minutes to its end", lid -> lid.run(0, 2), 2);
        refused("not open, but cracked", lid -> lid.run(1, 0), -1);
        refused("cracked", lid -> lid.run(1, 1), 2);
        refused("minutes till it is cracked", lid -> lid.run(1, 2), 2);
        Edge.due("open", byOpen().run(0, 0), 2);
        Edge.due("minutes till it is open", byCracked().run(0, 2), 2);
    }

    private static void best() {
        Edge.says("`int best(boolean hole)`: BEST PLAN (hole: one with a HOLE done counts, too). NONE: none, no KITCHEN,"
                + " OPEN or CRACKED.");
        refusedInAll("best(true)", lid -> lid.best(true), -1);
        refusedInAll("best(false)", lid -> lid.best(false), -1);
        refused("none opens it", lid -> lid.best(true), -1);
        Edge.refused(() -> Check.kitchen("jv0s0;h"), "no plans", lid -> lid.best(true), -1);
        Edge.due("beside an open one", byOpen().best(false), 0);
        Edge.due("beside a cracked one", byCracked().best(true), 0);
        TightLid lid = Check.kitchen("jv50s10;hp28");
        Check.text(lid, 2, "o;y09");
        Edge.due("with a hole", lid.best(true), 0);
        Edge.due("without", lid.best(false), -1);
        lid.work(2);
        Check.text(lid, 2, "t;t;y09");
        Edge.due("a hole made ahead is not the plan's", lid.best(false), 1);
        Edge.due("the plan's own counts, too", lid.best(true), 0);
    }

    private static void opens() {
        Edge.says("`int opens(int hands)`: A set of HANDS opens it (1, 0). NONE: no such set, OPEN or CRACKED.");
        int[] far = {-1, 4, 5, 8, 64, FAR, DEEP};
        for (int set : far) {
            refused("opens(" + set + ")", lid -> lid.opens(set), -1);
        }
        for (int s = 0; s < 4; s++) {
            int set = s;
            refused("opens(" + s + ")", lid -> lid.opens(set), 0);
            refusedInAll("opens(" + s + ")", lid -> lid.opens(set), -1);
        }
        Edge.due("beside an open one", byOpen().opens(2), 1);
        Edge.due("beside a cracked one", byCracked().opens(0), 0);
        Edge.due("64 of six", Check.kitchen("j;h;h;h;h;h;h").opens(64), -1);
        Edge.due("63 of six", Check.kitchen("j;h;h;h;h;h;h").opens(63), 1);
        Edge.due("2 of one", Check.kitchen("j;h").opens(2), -1);
    }

    private static void share() {
        Edge.says("`int share(int hand)`: SHARE. NONE: no such HAND, OPEN or CRACKED.");
        int[] far = {-1, 2, 6, FAR, DEEP};
        for (int hand : far) {
            refused("share(" + hand + ")", lid -> lid.share(hand), -1);
        }
        refusedInAll("share(0)", lid -> lid.share(0), -1);
        refused("none", lid -> lid.share(1), 0);
        Edge.due("beside an open one", byOpen().share(0), 1);
        Edge.due("beside a cracked one", byCracked().share(1), 1);
    }

    private static void cheapest() {
        Edge.says("`int cheapest(int hand)`: CHEAPEST. HIDDEN: none does, no such HAND, OPEN or CRACKED.");
        int[] far = {-1, 2, 6, FAR, DEEP};
        for (int hand : far) {
            refused("cheapest(" + hand + ")", lid -> lid.cheapest(hand), Check.HIDDEN);
        }
        refusedInAll("cheapest(0)", lid -> lid.cheapest(0), Check.HIDDEN);
        refused("none does", lid -> lid.cheapest(1), Check.HIDDEN);
        refused("one does", lid -> lid.cheapest(0), 1);
        Edge.due("beside an open one", byOpen().cheapest(1), -1);
        Edge.due("beside a cracked one", byCracked().cheapest(1), -1);
        Edge.due("no tools", Check.kitchen("j;hp29").cheapest(0), Check.HIDDEN);
    }

    private static void safe() {
        Edge.says("`int safe()`: SAFE. NONE: no KITCHEN, OPEN or CRACKED.");
        refusedInAll("safe()", TightLid::safe, -1);
        refused("12", TightLid::safe, 12);
        Edge.due("beside an open one", byOpen().safe(), 40);
        Edge.due("beside a cracked one", byCracked().safe(), 40);
    }

    private static void enough() {
        Edge.says("`int enough(int hand, int tool)`: ENOUGH (tool NONE: none). NONE: not with 60, no such ones, OPEN or CRACKED.");
        int[][] far = {{-1, 0}, {2, 0}, {0, -2}, {0, 2}, {0, 9}, {FAR, 0}, {DEEP, 0}, {0, FAR}, {0, DEEP}};
        for (int[] row : far) {
            refused("enough(" + row[0] + ", " + row[1] + ")", lid -> lid.enough(row[0], row[1]), -1);
        }
        refusedInAll("enough(0, -1)", lid -> lid.enough(0, -1), -1);
        refused("not ahead of its crack", lid -> lid.enough(0, -1), -1);
        refused("with the second tool", lid -> lid.enough(0, 1), 0);
        Edge.refused(() -> Check.kitchen("jg99s23;h"), "not with 60", lid -> lid.enough(0, -1), -1);
        Edge.due("with 60", Check.kitchen("jg99s22;h").enough(0, -1), 60);
        Edge.due("beside an open one", byOpen().enough(1, 0), 0);
        Edge.due("beside a cracked one", byCracked().enough(1, -1), 0);
    }

    private static void saves() {
        Edge.says("`int saves(int tool, int what)`: SAVES: how many (0), PRICE above (1), below (2). NONE: no such ones;"
                + " PRICE: it saves none.");
        int[][] far = {{-1, 0}, {-1, 1}, {2, 0}, {2, 2}, {0, -1}, {0, 3}, {1, -1}, {1, 3}, {FAR, 0}, {DEEP, 0}, {0, FAR}, {0, DEEP}};
        for (int[] row : far) {
            refused("saves(" + row[0] + ", " + row[1] + ")", lid -> lid.saves(row[0], row[1]), -1);
        }
        for (int w = 0; w <= 2; w++) {
            int what = w;
            Edge.refused(EdgePromises::none, "no kitchen", lid -> lid.saves(0, what), -1);
            Edge.refused(() -> Check.kitchen("j;h"), "no tools", lid -> lid.saves(0, what), -1);
        }
        refused("it saves none", lid -> lid.saves(0, 0), 0);
        refused("no price above", lid -> lid.saves(0, 1), -1);
        refused("no price below", lid -> lid.saves(0, 2), -1);
        refused("it saves one", lid -> lid.saves(1, 0), 1);
        refused("price above", lid -> lid.saves(1, 1), 3);
        refused("price below", lid -> lid.saves(1, 2), 1);
        Edge.due("by an open one", EdgePromises.open().saves(1, 0), 1);
        Edge.due("by a cracked one", EdgePromises.cracked().saves(1, 0), 1);
    }

    private static void openers() {
        Edge.says("`int openers(int jar, int vacuum)`: OPENERS. NONE: no such JAR, out of bounds (vacuum 0 .. 99).");
        int[][] far = {{-1, 0}, {2, 0}, {0, -1}, {0, 100}, {1, 100}, {FAR, 0}, {DEEP, 0}, {0, FAR}, {0, DEEP}};
        for (int[] row : far) {
            refused("openers(" + row[0] + ", " + row[1] + ")", lid -> lid.openers(row[0], row[1]), -1);
        }
        Edge.refused(EdgePromises::none, "no kitchen", lid -> lid.openers(0, 0), -1);
        refused("openers(0, 0)", lid -> lid.openers(0, 0), 1);
        refused("openers(1, 15)", lid -> lid.openers(1, 15), 2);
        refused("openers(1, 99)", lid -> lid.openers(1, 99), 0);
        Edge.due("of an open one", EdgePromises.open().openers(0, 10), 1);
        Edge.due("of a cracked one", EdgePromises.cracked().openers(0, 11), 0);
    }

    private static void factory() {
        Edge.says("`int factory(int jar, int least, int share)`: FACTORY. NONE: none, no such JAR, out of bounds"
                + " (share 0 .. 100).");
        int[][] far = {{-1, 0, 0}, {2, 0, 0}, {0, -1, 0}, {0, 100, 0}, {0, 0, -1}, {0, 0, 101}, {FAR, 0, 0}, {DEEP, 0, 0},
            {0, FAR, 0}, {0, DEEP, 0}, {0, 0, FAR}, {0, 0, DEEP}};
        for (int[] row : far) {
            String call = "factory(" + row[0] + ", " + row[1] + ", " + row[2] + ")";
            refused(call, lid -> lid.factory(row[0], row[1], row[2]), -1);
        }
        Edge.refused(EdgePromises::none, "no kitchen", lid -> lid.factory(0, 0, 0), -1);
        refused("none", lid -> lid.factory(0, 0, 51), -1);
        refused("half of them", lid -> lid.factory(0, 0, 50), 10);
        refused("from 10 on", lid -> lid.factory(0, 10, 50), 10);
        refused("from 11 on", lid -> lid.factory(0, 11, 50), -1);
        refused("share 0", lid -> lid.factory(1, 99, 0), 99);
        refused("share 100", lid -> lid.factory(1, 0, 100), 15);
        Edge.due("of an open one", EdgePromises.open().factory(0, 0, 50), 10);
        Edge.due("of a cracked one", EdgePromises.cracked().factory(0, 0, 50), 10);
    }

    private static void tried() {
        Edge.says("`int tried(int grip, boolean opened)`: TRIED: how many there are. NONE: out of bounds, there are 20,"
                + " the latest one opened it.");
        int[] far = {-1, 1000, FAR, DEEP};
        for (int grip : far) {
            refused("tried(" + grip + ")", lid -> lid.tried(grip, false), -1);
            refused("tried(" + grip + ", open)", lid -> lid.tried(grip, true), -1);
        }
        Supplier<TightLid> twenty = () -> {
            TightLid lid = new TightLid();
            for (int i = 1; i <= 20; i++) {
                Edge.due("tried " + i, lid.tried(3, false), i);
            }
            return lid;
        };
        Edge.refused(twenty, "a 21st", lid -> lid.tried(3, false), -1);
        Edge.refused(twenty, "a 21st that opens", lid -> lid.tried(3, true), -1);
        Supplier<TightLid> opened = () -> {
            TightLid lid = EdgePromises.closed();
            lid.tried(40, true);
            return lid;
        };
        Edge.refused(opened, "the latest one opened it", lid -> lid.tried(40, false), -1);
        Edge.refused(opened, "it opened it", lid -> lid.tried(40, true), -1);
        Edge.due("without a kitchen", EdgePromises.none().tried(0, false), 2);
        Edge.due("tried(0)", EdgePromises.closed().tried(0, false), 2);
        Edge.due("tried(999)", EdgePromises.closed().tried(999, true), 2);
        TightLid again = opened.get();
        again.forgive();
        Edge.due("forgiven", again.tried(40, false), 1);
    }

    private static void forgive() {
        Edge.says("`boolean forgive()`: TRIED is empty again. False: it is.");
        Edge.refuses(TightLid::new, "it is", TightLid::forgive);
        TightLid lid = EdgePromises.closed();
        Edge.due("it was not", lid.forgive(), true);
        Edge.due("none", lid.count(9), 0);
        Edge.due("all holds", lid.tight(0), 301);
        Edge.looks(lid, "it is", lid::forgive, false);
        Edge.due("no act", lid.count(10), 3);
        Edge.due("without a kitchen", EdgePromises.none().forgive(), true);
    }

    private static void tight() {
        Edge.says("`int tight(int what)`: TIGHT: how many (0), the least (1), the greatest (2; NONE both: none)."
                + " HIDDEN: no such what.");
        int[] far = {-1, 3, FAR, DEEP};
        for (int what : far) {
            refused("tight(" + what + ")", lid -> lid.tight(what), Check.HIDDEN);
            Edge.refused(EdgePromises::none, "no kitchen", lid -> lid.tight(what), Check.HIDDEN);
        }
        TightLid lid = EdgePromises.closed();
        Edge.row("tight", lid::tight, 291, 10, 300);
        lid.tried(999, false);
        Edge.row("of none", lid::tight, 0, -1, -1);
        TightLid zero = new TightLid();
        zero.tried(0, true);
        Edge.row("of 0 alone", zero::tight, 1, 0, 0);
    }

    private static void next() {
        Edge.says("`int next(int grip)`: NEXT. NONE: out of bounds.");
        int[] far = {-1, 1000, FAR, DEEP};
        for (int grip : far) {
            refused("next(" + grip + ")", lid -> lid.next(grip), -1);
            Edge.refused(TightLid::new, "next(" + grip + ") of a new one", lid -> lid.next(grip), -1);
        }
        refused("next(0)", lid -> lid.next(0), 0);
        refused("next(9)", lid -> lid.next(9), 0);
        refused("next(10)", lid -> lid.next(10), 1);
        refused("next(999)", lid -> lid.next(999), 291);
    }

    private static void who() {
        Edge.says("`int who(int stuck, int d)`: WHO, as bits. NONE: no KITCHEN, out of bounds (0 .. 99 both).");
        int[][] far = {{-1, 0}, {100, 0}, {0, -1}, {0, 100}, {FAR, 0}, {DEEP, 0}, {0, FAR}, {0, DEEP}};
        for (int[] row : far) {
            refused("who(" + row[0] + ", " + row[1] + ")", lid -> lid.who(row[0], row[1]), -1);
        }
        Edge.refused(EdgePromises::none, "no kitchen", lid -> lid.who(0, 99), -1);
        refused("who(99, 99)", lid -> lid.who(99, 99), 3);
        refused("who(0, 0)", lid -> lid.who(0, 0), 0);
        refused("who(10, 0)", lid -> lid.who(10, 0), 2);
        Edge.due("by an open one", EdgePromises.open().who(25, 0), 1);
        Edge.due("by a cracked one", EdgePromises.cracked().who(25, 0), 1);
    }

    private static void lefties() {
        Edge.says("`int lefties()`: LEFTIES, as bits. NONE: no KITCHEN.");
        Edge.refused(EdgePromises::none, "no kitchen", TightLid::lefties, -1);
        refused("the second", TightLid::lefties, 2);
        Edge.due("by an open one", EdgePromises.open().lefties(), 2);
        Edge.due("by a cracked one", EdgePromises.cracked().lefties(), 2);
    }

    private static void evening() {
        Edge.says("`int evening(int n, long seed)`: EVENING: how many TRIES. NONE: no KITCHEN, out of bounds, OPEN or CRACKED.");
        int[] far = {-1, 0, 41, FAR, DEEP};
        for (int n : far) {
            refused("evening(" + n + ")", lid -> lid.evening(n, 1L), -1);
        }
        refusedInAll("evening(1)", lid -> lid.evening(1, 1L), -1);
        refusedInAll("evening(40)", lid -> lid.evening(40, Long.MIN_VALUE), -1);
        Edge.due("one", EdgePromises.closed().evening(1, Long.MAX_VALUE), 1);
        Edge.due("beside an open one", byOpen().evening(40, 0L), 1);
        Edge.due("beside a cracked one", byCracked().evening(40, 0L), 1);
    }

    private static void perform() {
        Edge.says("`int perform(int plan)`: DO: how many STEPS were done. NONE: no such PLAN, no KITCHEN, OPEN or CRACKED.");
        int[] far = {-1, 2, 4, FAR, DEEP};
        for (int plan : far) {
            refused("perform(" + plan + ")", lid -> lid.perform(plan), -1);
        }
        refusedInAll("perform(0)", lid -> lid.perform(0), -1);
        refusedInAll("perform(1)", lid -> lid.perform(1), -1);
        TightLid four = EdgePromises.four(2, "w");
        Check.text(four, 0, "j;h");
        Edge.row("of four plans", four::perform, 1, 1, 1, 1, -1);
        Edge.due("to its end", EdgePromises.closed().perform(0), 2);
        Edge.due("till it is cracked", EdgePromises.closed().perform(1), 2);
        Edge.due("beside an open one", byOpen().perform(0), 2);
        Edge.due("beside a cracked one", byCracked().perform(0), 2);
    }

    private static void log() {
        Edge.says("`int log(int i, int what)`: LOG, the latest (i 0), the one ahead of it (1) ..: which (0), the MINUTE (1)."
                + " NONE: no such ones.");
        int[][] far = {{-1, 0}, {3, 0}, {3, 1}, {0, -1}, {0, 2}, {2, 2}, {60, 0}, {FAR, 0}, {DEEP, 0}, {0, FAR}, {0, DEEP}};
        for (int[] row : far) {
            refused("log(" + row[0] + ", " + row[1] + ")", lid -> lid.log(row[0], row[1]), -1);
        }
        Edge.refused(EdgePromises::none, "no kitchen", lid -> lid.log(0, 0), -1);
        TightLid lid = EdgePromises.closed();
        Edge.row("which", i -> lid.log(i, 0), 6, 0, 119, -1);
        Edge.row("the minute", i -> lid.log(i, 1), 5, 2, 1, -1);
        Edge.due("of none", Check.kitchen("j;h").log(0, 0), -1);
    }

    private static void image() {
        Edge.says("`int image()`: An IMAGE (instead of the one ahead): the MINUTE. NONE: no KITCHEN.");
        Edge.refused(EdgePromises::none, "no kitchen", TightLid::image, -1);
        TightLid lid = EdgePromises.closed();
        Edge.due("the one ahead", lid.back(), 1);
        lid.pause(7);
        Edge.looks(lid, "instead", lid::image, 8);
        lid.pause(7);
        Edge.due("back to it", lid.back(), 8);
        Edge.due("at minute 0", Check.kitchen("j;h").image(), 0);
        TightLid open = EdgePromises.open();
        Edge.due("of an open one", open.image(), 7);
        open.shut(0);
        open.back();
        Edge.due("open again", Check.jar(open, 0, 8), 1);
        TightLid broken = EdgePromises.cracked();
        broken.image();
        broken.undo();
        Edge.due("undone", Check.jar(broken, 0, 9), 0);
        broken.back();
        Edge.due("cracked again", Check.jar(broken, 0, 9), 1);
    }

    private static void back() {
        Edge.says("`int back()`: BACK: the MINUTE. NONE: no IMAGE of this KITCHEN.");
        Edge.refused(EdgePromises::none, "no kitchen", TightLid::back, -1);
        TightLid lid = Check.kitchen("jv30;h");
        lid.work(0);
        Edge.looks(lid, "no image", lid::back, -1);
        Edge.due("its act can still be undone", lid.count(10), 1);
        lid.image();
        Edge.due("of this one", lid.back(), 1);
        Edge.due("once more", lid.back(), 1);
        Check.text(lid, 0, "jv40;h");
        lid.work(0);
        Edge.looks(lid, "of another one", lid::back, -1);
        lid.image();
        lid.work(1);
        Edge.due("of this one again", lid.back(), 1);
        Edge.due("its vacuum", Check.jar(lid, 0, 0), 40);
        Check.text(lid, 0, "j");
        Edge.due("behind a refused kitchen", lid.back(), 1);
        TightLid first = Check.kitchen("j;h");
        first.image();
        first.pause(60);
        Edge.due("minute 0", first.back(), 0);
    }

    private static void count() {
        Edge.says("`int count(int what)`: 0 JARS, 1 HANDS, 2 TOOLS, 3 LAWS, 4 PLANS, 5 bytes of the TAPE, 6 the JAR on the TABLE"
                + " (NONE without a KITCHEN), 7 the MINUTE, 8 the LAW that holds (NONE), 9 TRIED, 10 ACTS that can be UNDONE,"
                + " 11 how long the LOG is. HIDDEN for others.");
        int[] far = {-1, 12, 13, FAR, DEEP};
        for (int what : far) {
            refused("count(" + what + ")", lid -> lid.count(what), Check.HIDDEN);
            Edge.refused(TightLid::new, "of a new one: count(" + what + ")", lid -> lid.count(what), Check.HIDDEN);
        }
        TightLid lid = EdgePromises.closed();
        Edge.row("count", lid::count, 2, 2, 2, 2, 2, 3, 0, 5, 0, 1, 3, 3);
        lid.table(1);
        lid.law(-1);
        lid.undo();
        lid.undo();
        Edge.row("then", lid::count, 2, 2, 2, 2, 2, 3, 0, 2, -1, 1, 2, 2);
        Edge.row("without a kitchen", EdgePromises.none()::count, 0, 0, 0, 2, 2, 3, -1, 0, -1, 1, 0, 0);
    }

    private static void nothingChanges() {
        Edge.says("What is refused answers as told and changes nothing.");
        Supplier<TightLid> full = () -> {
            TightLid lid = EdgePromises.closed();
            lid.evening(1, 3L);
            for (int i = 0; i < 70; i++) {
                lid.pause(1);
            }
            return lid;
        };
        Edge.refused(full, "with a full log: turn", lid -> lid.turn(2, -1, 0), -1);
        Edge.refused(full, "with a full log: heat", lid -> lid.heat(61), -1);
        Edge.refused(full, "with a full log: pause", lid -> lid.pause(61), -1);
        Edge.refused(full, "with a full log: evening", lid -> lid.evening(41, 1L), -1);
        Edge.refused(full, "with a full log: perform", lid -> lid.perform(2), -1);
        Edge.refuses(full, "with a full log: dry", lid -> lid.dry(2));
        Edge.refuses(full, "with a full log: table", lid -> lid.table(0));
        Edge.refused(full, "with a full log: shut", lid -> lid.shut(0), -1);
        Edge.refused(full, "with a full log: text", lid -> lid.text(0), -1);
    }

    /** The 512th call is answered as the first. */
    private static void calls() {
        Edge.says("An object is used for at most 512 calls after it has been made; what later calls answer is free.");
        TightLid lid = new TightLid();
        lid.feed(0x6A3B6800, 0, 0, 0, 0);
        lid.text(0);
        for (int i = 1; i <= 509; i++) {
            Edge.due("pause " + i, lid.pause(60), 60 * i);
        }
        Edge.due("the 512th", lid.undo(), 39);
    }
}
