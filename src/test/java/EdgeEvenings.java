import java.math.BigInteger;
import java.util.function.Supplier;

/** Sentences of part 4 that name edges: EVENINGS, the LOG, PLANS done, draws, IMAGES, and what is refused. */
final class EdgeEvenings {
    private static final BigInteger ROUND = BigInteger.ONE.shiftLeft(64);
    private static final BigInteger TIMES = new BigInteger("6364136223846793005");
    private static final BigInteger AND = new BigInteger("1442695040888963407");
    private static final long[] SEEDS = {0, 1, -1, 2, Long.MAX_VALUE, Long.MIN_VALUE, Long.MIN_VALUE + 1, 0x7FFFFFFFL,
        0x80000000L, 0xFFFFFFFFL, 0x1FFFFFFFFL, -8765432101234567L, 4711, 31337, -2, 1L << 33, 1L << 62};
    private static BigInteger x = BigInteger.ZERO;

    private EdgeEvenings() {
    }

    static void all() {
        bounds();
        tillOpen();
        draws();
        slips();
        latestSixty();
        codes();
        takenOff();
        plansDone();
        goingRound();
        images();
        constants();
    }

    private static void seed(long seed) {
        x = BigInteger.valueOf(seed).mod(ROUND);
    }

    /** The document's draw, by numbers that have no end of their own. */
    private static int draw(int m) {
        x = x.multiply(TIMES).add(AND).mod(ROUND);
        return x.shiftRight(33).mod(BigInteger.valueOf(m)).intValue();
    }

    private static void bounds() {
        Edge.says("EVENING by a seed: n (1 .. 40) TRIES on the TABLE's JAR, till it is OPEN (or CRACKED: none)");
        Supplier<TightLid> made = () -> Check.kitchen("jv99s99;jv0s0;hp1t0");
        Edge.refused(made, "evening(0)", lid -> lid.evening(0, 5L), -1);
        Edge.refused(made, "evening(-1)", lid -> lid.evening(-1, 5L), -1);
        Edge.refused(made, "evening(41)", lid -> lid.evening(41, 5L), -1);
        TightLid lid = made.get();
        Edge.due("evening(1)", lid.evening(1, 5L), 1);
        Edge.due("one act", lid.count(10), 1);
        Edge.due("evening(40)", lid.evening(40, 5L), 40);
        Edge.due("41 minutes", lid.count(7), 41);
        Edge.due("41 in the log", lid.count(11), 41);
        Edge.due("40 of them can be undone", lid.count(10), 40);
        Edge.refused(EdgeActs::cracked, "cracked", broken -> broken.evening(5, 5L), -1);
        Edge.refused(EdgeActs::opened, "open", open -> open.evening(5, 5L), -1);
        lid.table(1);
        Edge.due("on the table's jar", lid.evening(40, 5L), 1);
        Edge.due("that one", Check.jar(lid, 1, 8), 1);
        Edge.due("not the other", Check.jar(lid, 0, 8), 0);
    }

    /** Each try loosens by 3, till grip 30 is no less than hold. */
    private static void tillOpen() {
        for (int stuck = 0; stuck <= 15; stuck++) {
            TightLid lid = Check.kitchen("jv30s" + stuck + ";hp30t0");
            Edge.due("stuck " + stuck, lid.evening(40, 9L), 1 + (stuck + 2) / 3);
            Edge.due("open", Check.jar(lid, 0, 8), 1);
            TightLid few = Check.kitchen("jv30s" + stuck + ";hp30t0");
            Edge.due("two at most", few.evening(2, 9L), stuck == 0 ? 1 : 2);
            Edge.due("open by two", Check.jar(few, 0, 8), stuck <= 3 ? 1 : 0);
        }
    }

    private static void draws() {
        Edge.says("for each a draw of HANDS, a draw of TOOLS and 1 (the last: none), a draw of SLIP and 1 of that HAND:"
                + " GRIP is so much less (0 at least); to the right side. How many were made; each an ACT.");
        String[] kitchens = {"jv99s99;hp40t1;hp50e3;hp60e9;hp30;hp20e1;hp9e9;ta9;ta20;ta0;ta99c1",
            "jv99s99l1;hp40e9t1", "jv99s99;hp0e9;hp5e9;t"};
        for (String kitchen : kitchens) {
            for (long seed : SEEDS) {
                evening(kitchen, seed);
            }
        }
    }

    private static void evening(String kitchen, long seed) {
        TightLid lid = Check.kitchen(kitchen);
        int hands = lid.count(1);
        int tools = lid.count(2);
        int[] hand = new int[12];
        int[] tool = new int[12];
        int[] slip = new int[12];
        seed(seed);
        for (int i = 0; i < 12; i++) {
            hand[i] = draw(hands);
            tool[i] = draw(tools + 1);
            slip[i] = draw(lid.hand(hand[i], 4) + 1);
        }
        int made = lid.evening(12, seed);
        Edge.due("each an act", lid.count(10), made);
        for (int i = made - 1; i >= 0; i--) {
            int code = 100 + 10 * hand[i] + (tool[i] == tools ? 9 : tool[i]);
            Edge.due("seed " + seed + ", try " + i, lid.log(0, 0), code);
            Edge.due("its minute", lid.log(0, 1), i + 1);
            boolean open = Check.jar(lid, 0, 8) == 1;
            int stuck = Check.jar(lid, 0, 1);
            Edge.due("undo", lid.undo(), i);
            int grip = Math.max(0, lid.grip(hand[i], tool[i] == tools ? -1 : tool[i], 0) - slip[i]);
            Edge.due("open by a grip of " + grip, open, grip >= Check.jar(lid, 0, 10));
            Edge.due("stuck", stuck, open ? Check.jar(lid, 0, 1) : Math.max(0, Check.jar(lid, 0, 1) - grip / 10));
        }
    }

    private static void slips() {
        for (long seed = 0; seed < 40; seed++) {
            seed(seed);
            draw(1);
            draw(1);
            int slip = draw(10);
            TightLid lid = Check.kitchen("jv20s5;hp28e9");
            lid.evening(1, seed);
            Edge.due("open by a slip of " + slip, Check.jar(lid, 0, 8), 28 - slip >= 25 ? 1 : 0);
            TightLid weak = Check.kitchen("jv0s0;hp3e9");
            Edge.due("grip 0 at least", weak.evening(1, seed), 1);
            Edge.due("opens a hold of 0", Check.jar(weak, 0, 8), 1);
            TightLid held = Check.kitchen("jv1s0;hp3e9");
            held.evening(1, seed);
            Edge.due("opens a hold of 1", Check.jar(held, 0, 8), slip < 3 ? 1 : 0);
        }
    }

    private static void latestSixty() {
        Edge.says("LOG: of all ACTS by hand, EVENINGS and PLANS done, the latest 60");
        TightLid lid = Check.kitchen("jv99s99;hp1t0;ta0");
        Check.text(lid, 2, "t;k;w;d0;y00");
        lid.dry(0);
        lid.evening(3, 1L);
        lid.perform(0);
        Edge.due("of all", lid.count(11), 9);
        Edge.due("by hand", lid.log(8, 0), 10);
        Edge.row("by a plan", i -> lid.log(i, 0), 100, 10, 4, 1, 0);
        for (int i = 10; i <= 70; i++) {
            lid.pause(1);
            Edge.due("60 at most", lid.count(11), Math.min(60, i));
        }
        Edge.due("the latest", lid.log(0, 1), 79);
        Edge.due("the 60th", lid.log(59, 1), 20);
        Edge.due("there is no 61st", lid.log(60, 1), -1);
        lid.evening(40, 3L);
        Edge.due("60 behind an evening", lid.count(11), 60);
        Edge.due("the latest of it", lid.log(0, 1), 119);
        Edge.due("the first of it", lid.log(39, 1), 80);
        Edge.due("a wait ahead of it", lid.log(40, 0), 6);
        lid.perform(0);
        Edge.due("the latest of a plan", lid.log(0, 0), 100);
        Edge.due("60 behind a plan", lid.count(11), 60);
    }

    private static void codes() {
        Edge.says("which (numbers as above; 5 HEAT of other n, 6 WAIT of other n, 7 FRIDGE, 20 and a HAND: SHUT,"
                + " 30 and a JAR: TABLE, 1,000 more: a TRY to the wrong side), the MINUTE at its end.");
        TightLid lid = Check.kitchen("jg99v90;j;j;jv0s0l1;h;h;h;h;h;h;t;t;t;t");
        log(lid, lid.heat(9), 5, 1);
        log(lid, lid.heat(10), 3, 2);
        log(lid, lid.heat(11), 5, 3);
        log(lid, lid.pause(9), 6, 12);
        log(lid, lid.pause(10), 4, 22);
        log(lid, lid.pause(11), 6, 33);
        log(lid, lid.work(0), 0, 34);
        log(lid, lid.work(1), 1, 35);
        log(lid, lid.work(2), 2, 36);
        log(lid, lid.work(3), 7, 37);
        log(lid, lid.turn(0, -1, 1), 1109, 38);
        log(lid, lid.turn(5, 3, 1), 1153, 39);
        Edge.due("dry", lid.dry(5), true);
        log(lid, 0, 15, 40);
        Edge.due("table", lid.table(3), true);
        log(lid, 0, 33, 40);
        log(lid, lid.turn(0, 0, 0), 1100, 41);
        log(lid, lid.turn(5, -1, 1), 159, 42);
        log(lid, lid.shut(5), 25, 43);
        Edge.due("table", lid.table(0), true);
        log(lid, 0, 30, 43);
    }

    private static void log(TightLid lid, int answer, int which, int minute) {
        Edge.due("not refused", answer >= 0, true);
        Edge.due("which", lid.log(0, 0), which);
        Edge.due("the minute", lid.log(0, 1), minute);
    }

    private static void takenOff() {
        Edge.says("(What is UNDONE is taken off.)");
        TightLid lid = Check.kitchen("j;h");
        lid.pause(1);
        lid.pause(2);
        lid.dry(0);
        lid.undo();
        Edge.due("two are left", lid.count(11), 2);
        Edge.due("the latest then", lid.log(0, 1), 3);
        lid.undo();
        lid.undo();
        Edge.due("none is left", lid.count(11), 0);
        Edge.due("no latest", lid.log(0, 0), -1);
        lid.work(0);
        Edge.due("a new one", lid.log(0, 0), 0);
        Edge.due("is alone", lid.count(11), 1);
        for (int i = 0; i < 70; i++) {
            lid.pause(1);
        }
        for (int i = 1; i <= 40; i++) {
            lid.undo();
            Edge.due("of a full one " + i, lid.count(11), 60 - i);
            Edge.due("the latest then", lid.log(0, 1), 71 - i);
        }
        Edge.due("refused", lid.undo(), -1);
        Edge.due("takes none off", lid.count(11), 20);
        Edge.due("the oldest", lid.log(19, 1), 12);
    }

    private static void plansDone() {
        Edge.says("DO a PLAN: its STEPS one behind the other as ACTS (those that can't be are left out), till it is OPEN"
                + " or CRACKED: how many were done.");
        TightLid lid = Check.kitchen("jv30s20g35;hp40t3;ta5");
        Check.text(lid, 2, "d9;y99;y08");
        Check.text(lid, 2, "t;d1;k;y19;y01;t;d0");
        Check.text(lid, 2, "h;h;h;h;h;t");
        Check.text(lid, 2, "k;y00;k;k");
        Edge.due("none can be", lid.perform(0), 0);
        Edge.due("none is an act", lid.count(10) + lid.count(11) + lid.count(7), 0);
        Edge.due("four can be", lid.perform(1), 4);
        Edge.due("four acts", lid.count(10), 4);
        Edge.row("in the log", i -> lid.log(i, 0), 10, 0, 1, 0);
        Edge.due("till it is cracked", lid.perform(2), 4);
        Edge.due("cracked", Check.jar(lid, 0, 9), 1);
        Edge.due("the heat that cracked it is an act", lid.undo(), 7);
        Edge.due("till it is open", lid.perform(3), 2);
        Edge.due("open", Check.jar(lid, 0, 8), 1);
        Edge.due("4, 4 less the one undone, 2", lid.count(10), 9);
        TightLid most = Check.kitchen("j;h");
        Check.text(most, 2, "w;w;w;w;w;w;w;w;w;w;w;w;w;w;w;w");
        Edge.due("sixteen", most.perform(0), 16);
        Edge.due("sixteen times ten", most.count(7), 160);
    }

    private static void goingRound() {
        Edge.says("x, at first the seed, becomes x times 6364136223846793005 and 1442695040888963407 (64 bits, going round);"
                + " a draw of m: (x shifted right by 33, without sign) modulo m.");
        int high = 0;
        for (long seed : SEEDS) {
            TightLid lid = Check.kitchen("jv99s99;hp1t0;hp1t0;hp1t0;hp1t0;hp1t0;ta0;ta0");
            Edge.due("forty", lid.evening(40, seed), 40);
            seed(seed);
            for (int i = 39; i >= 0; i--) {
                int hand = draw(5);
                high += x.testBit(63) ? 1 : 0;
                int tool = draw(3);
                draw(1);
                Edge.due("seed " + seed + ", try " + (39 - i), lid.log(i, 0), 100 + 10 * hand + (tool == 2 ? 9 : tool));
            }
        }
        Edge.due("some with the highest bit, some without", high > 100 && high < 580, true);
    }

    private static void images() {
        Edge.says("An IMAGE keeps JARS, HANDS, what was LOOSENED, the TABLE, the MINUTE; BACK: they are so again"
                + " (no ACT can be UNDONE then; the LOG stays).");
        TightLid lid = Check.kitchen("jv40s40c3;jl1v0s0;hp50w3;h;t");
        Check.text(lid, 1, "y:p");
        lid.turn(0, 0, 0);
        lid.work(2);
        lid.heat(5);
        Edge.due("image", lid.image(), 3);
        String seen = Check.scene(lid);
        lid.turn(1, -1, 0);
        lid.table(1);
        lid.turn(0, -1, 1);
        lid.shut(0);
        lid.heat(41);
        lid.dry(0);
        lid.pause(60);
        lid.law(0);
        lid.tried(5, false);
        Edge.due("back", lid.back(), 3);
        Edge.same("they are so again", Check.scene(lid), seen);
        Edge.due("no act can be undone", lid.count(10), 0);
        Edge.due("undo", lid.undo(), -1);
        Edge.due("the log stays", lid.count(11), 10);
        Edge.due("its latest", lid.log(0, 1), 68);
        Edge.due("the law that holds stays", lid.count(8), 0);
        Edge.due("tried stays", lid.count(9), 1);
        lid.work(0);
        Edge.due("an act behind it", lid.count(10), 1);
        Edge.due("at the minute", lid.log(0, 1), 4);
        Edge.due("can be undone", lid.undo(), 0);
        Edge.same("to the image", Check.scene(lid), seen);
        Edge.due("it no farther", lid.undo(), -1);
        lid.work(0);
        Edge.due("back once more", lid.back(), 3);
        Edge.same("the image stays", Check.scene(lid), seen);
    }

    private static void constants() {
        Edge.says("The constants: `NONE = -1`: None; refused.");
        Edge.due("NONE", TightLid.NONE, -1);
        Edge.says("`HIDDEN = -1000000`: Not told.");
        Edge.due("HIDDEN", TightLid.HIDDEN, -1000000);
    }
}
