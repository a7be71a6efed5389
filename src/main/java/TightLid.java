import java.util.Arrays;
import java.util.NoSuchElementException;

public final class TightLid {
    public static final int NONE = -1;
    public static final int HIDDEN = -1000000;

    private static final int MOST_BYTES = 200;
    private static final int MOST_TEXTS = 4;
    private static final int MOST_STEPS = 16;
    private static final int MOST_UNDONE = 40;
    private static final int MOST_NOTES = 60;
    private static final int MOST_TRIED = 20;
    private static final int MOST_EVENING = 40;
    private static final int MOST_SECONDS = 60;
    private static final int MOST_GRIP = 999;
    private static final int MOST_HOLD = 300;
    private static final int MOST_ITEM = 99;
    private static final int MOST_COLD = 9;
    private static final int MOST_WITHIN = 6;
    private static final int MOST_NUMBER = 1000000;
    /** Two acts leave a hand in some sixteen ways at most; what is not kept is told anew. */
    private static final int MOST_KNOWN = 24;

    private static final int KITCHEN = 0;
    private static final int LAW = 1;
    private static final int PLAN = 2;

    private static final int JARS = 0;
    private static final int HANDS = 1;
    private static final int TOOLS = 2;
    private static final int[] MOST_OF = {4, 6, 4};
    private static final int[] ITEMS_OF = {6, 5, 2};
    /** Where the items of a kind begin among all told numbers. */
    private static final int[] TOLD_AT = {0, 24, 54};
    private static final int TOLD_CELLS = 62;
    /** Where a kind begins among the bounds below. */
    private static final int[] BOUNDS_AT = {0, 6, 11};
    private static final int[] LEAST = {0, 0, 0, 0, 1, 1, 0, 1, 0, 0, 0, 0, 0};
    private static final int[] MOST = {99, 99, 9, 1, 9, 99, 99, 9, 9, 9, 9, 99, 99};
    private static final int[] USUAL = {20, 10, 0, 0, 5, 40, 30, 5, 0, 2, 0, 10, 5};

    private static final int LEFT = 3;
    private static final int WIDE = 4;
    private static final int GLASS = 5;
    private static final int TOLD_POWER = 0;
    private static final int SIZE = 1;
    private static final int TOLD_WET = 2;
    private static final int TIRES = 3;
    private static final int SLIP = 4;
    private static final int ADDS = 0;
    private static final int COST = 1;

    /** Cells of a jar in a scene; the first three are told in the same order. */
    private static final int VACUUM = 0;
    private static final int STUCK = 1;
    private static final int COLD = 2;
    private static final int APART = 3;
    private static final int HOLED = 4;
    private static final int OPEN = 5;
    private static final int CRACKED = 6;
    private static final int JAR_CELLS = 7;
    /** Cells of a hand in a scene. */
    private static final int POWER = 0;
    private static final int WET = 1;
    private static final int HAND_CELLS = 2;
    private static final int HANDS_AT = 28;
    private static final int LOOSENED_AT = 40;
    private static final int TABLE_AT = 64;
    private static final int MINUTE_AT = 65;
    private static final int SCENE_CELLS = 66;

    private static final int TAP = 0;
    private static final int KNOCK = 1;
    private static final int HOLE = 2;
    private static final int HEAT_TEN = 3;
    private static final int WAIT_TEN = 4;
    private static final int HEAT_OTHER = 5;
    private static final int WAIT_OTHER = 6;
    private static final int FRIDGE = 7;
    private static final int DRY = 10;
    private static final int SHUT = 20;
    private static final int TABLE = 30;
    private static final int TRY = 100;
    private static final int WRONG_SIDE = 1000;
    private static final int NO_TOOL = 9;
    private static final int TEN = 10;

    private static final int WHEN = '?';
    private static final int STOP = ';';
    private static final int A_LETTER = 1000;
    private static final int A_NUMBER = 2000;
    private static final String LAW_LETTERS = "pswica";

    private final Tape tape = new Tape();
    private final KitchenReader kitchenReader = new KitchenReader(tape);
    private final LawReader lawReader = new LawReader(tape);
    private final PlanReader planReader = new PlanReader(tape);
    private final Told told = new Told();
    private final Grips grips = new Grips();
    private final Scene now = new Scene(told, grips);
    private final Scene spare = new Scene(told, grips);
    private final Diary diary = new Diary();
    private final Seeker seeker = new Seeker(told, grips);
    private final Crowd crowd = new Crowd();
    private final Guess guess = new Guess();
    private final int[][] laws = new int[MOST_TEXTS][];
    private final int[][] plans = new int[MOST_TEXTS][];
    private int lawCount;
    private int planCount;
    private int lawHeld = NONE;
    private boolean ready;
    private long drawn;

    public TightLid() {
    }

    public int feed(int a, int b, int c, int d, int e) {
        int more = Tape.bytesOf(a) + Tape.bytesOf(b) + Tape.bytesOf(c) + Tape.bytesOf(d) + Tape.bytesOf(e);
        if (tape.length + more > MOST_BYTES) {
            return NONE;
        }
        tape.add(a);
        tape.add(b);
        tape.add(c);
        tape.add(d);
        tape.add(e);
        return tape.length;
    }

    public boolean end(int n) {
        if (n < 0 || n > tape.length) {
            return false;
        }
        tape.length = n;
        return true;
    }

    public int fault(int sort) {
        switch (sort) {
            case KITCHEN:
                return kitchenReader.firstWrong();
            case LAW:
                return lawReader.firstWrong();
            case PLAN:
                return planReader.firstWrong();
            default:
                return -2;
        }
    }

    public int text(int sort) {
        switch (sort) {
            case KITCHEN:
                return kitchenReader.firstWrong() == NONE ? keepKitchen() : NONE;
            case LAW:
                return lawReader.firstWrong() == NONE ? keepLaw() : NONE;
            case PLAN:
                return planReader.firstWrong() == NONE ? keepPlan() : NONE;
            default:
                return NONE;
        }
    }

    private int keepKitchen() {
        told.take(kitchenReader.draft);
        tape.length = 0;
        grips.law = null;
        lawHeld = NONE;
        now.restart();
        diary.clear();
        guess.clear();
        ready = true;
        return told.counts[JARS];
    }

    private int keepLaw() {
        if (lawCount >= MOST_TEXTS) {
            return NONE;
        }
        laws[lawCount] = Arrays.copyOf(lawReader.code, lawReader.length);
        lawCount++;
        tape.length = 0;
        return lawCount - 1;
    }

    private int keepPlan() {
        if (planCount >= MOST_TEXTS) {
            return NONE;
        }
        plans[planCount] = Arrays.copyOf(planReader.steps, planReader.count);
        planCount++;
        tape.length = 0;
        return planCount - 1;
    }

    public int jar(int jar, int what) throws NoSuchElementException {
        if (!isJar(jar) || what < 0 || what > 10) {
            throw new NoSuchElementException();
        }
        if (what == 10) {
            return now.hold(jar);
        }
        if (what <= COLD) {
            return now.jarCell(jar, what);
        }
        return what <= GLASS ? told.item(JARS, jar, what) : now.jarCell(jar, what - 3);
    }

    public int hand(int hand, int what) {
        if (!isHand(hand)) {
            return NONE;
        }
        switch (what) {
            case 0:
                return now.handCell(hand, POWER);
            case 2:
                return now.handCell(hand, WET);
            case 1:
            case 3:
            case 4:
                return told.item(HANDS, hand, what);
            case 5:
                return told.item(HANDS, hand, TOLD_POWER);
            case 6:
                return now.loosened(hand);
            default:
                return NONE;
        }
    }

    public int tool(int tool, int what) {
        if (tool == NONE || !isTool(tool) || what < ADDS || what > COST) {
            return NONE;
        }
        return told.item(TOOLS, tool, what);
    }

    public boolean law(int law) {
        if (!ready || law < NONE || law >= lawCount) {
            return false;
        }
        lawHeld = law;
        grips.law = law == NONE ? null : laws[law];
        return true;
    }

    public int step(int plan, int i) {
        int[] steps = stepsOf(plan);
        if (steps == null || i < 0 || i >= steps.length) {
            return NONE;
        }
        return steps[i];
    }

    public int grip(int hand, int tool, int jar) {
        if (!isHand(hand) || !isTool(tool) || !isJar(jar)) {
            return NONE;
        }
        return now.gripOn(hand, tool, jar);
    }

    public int lacks(int hand, int tool, int jar) {
        if (!isHand(hand) || !isTool(tool) || !isJar(jar) || !now.isClosed(jar)) {
            return NONE;
        }
        return Math.max(0, now.hold(jar) - now.gripOn(hand, tool, jar));
    }

    public int turn(int hand, int tool, int side) {
        if (!isHand(hand) || !isTool(tool) || side < 0 || side > 1 || !lidIsShut()) {
            return NONE;
        }
        int code = tryCode(hand, tool);
        diary.keep(now);
        if (side == told.item(JARS, now.onTable(), LEFT)) {
            now.tryLid(hand, now.gripOn(hand, tool, now.onTable()));
        } else {
            now.tryWrongSide(hand);
            code += WRONG_SIDE;
        }
        diary.note(code, now.minute());
        return now.lid(OPEN);
    }

    public int heat(int n) {
        if (n < 1 || n > MOST_SECONDS || !lidIsShut()) {
            return NONE;
        }
        diary.keep(now);
        now.warm(n);
        diary.note(n == TEN ? HEAT_TEN : HEAT_OTHER, now.minute());
        return now.lid(CRACKED);
    }

    public int work(int what) {
        if (what < 0 || what > 3 || !lidIsShut()) {
            return NONE;
        }
        diary.keep(now);
        if (what == 3) {
            now.chill();
        } else {
            now.act(what);
        }
        diary.note(what == 3 ? FRIDGE : what, now.minute());
        return now.hold(now.onTable());
    }

    public boolean dry(int hand) {
        if (!isHand(hand)) {
            return false;
        }
        diary.keep(now);
        now.act(DRY + hand);
        diary.note(DRY + hand, now.minute());
        return true;
    }

    public int pause(int n) {
        if (!ready || n < 1 || n > MOST_SECONDS) {
            return NONE;
        }
        diary.keep(now);
        now.rest(n);
        diary.note(n == TEN ? WAIT_TEN : WAIT_OTHER, now.minute());
        return now.minute();
    }

    public int shut(int hand) {
        if (!isHand(hand) || now.lid(OPEN) == 0) {
            return NONE;
        }
        diary.keep(now);
        now.close(hand);
        diary.note(SHUT + hand, now.minute());
        return now.hold(now.onTable());
    }

    public boolean table(int jar) {
        if (!isJar(jar) || jar == now.onTable()) {
            return false;
        }
        diary.keep(now);
        now.cells[TABLE_AT] = jar;
        diary.note(TABLE + jar, now.minute());
        return true;
    }

    public int undo() {
        return diary.takeBack(now);
    }

    public int soonest(int k, boolean hole, int what) {
        if (!ready || k < 1 || k > 3 || what < 0 || what > 1 || now.lid(CRACKED) == 1) {
            return HIDDEN;
        }
        if (now.lid(OPEN) == 1) {
            return what == 0 ? 0 : NONE;
        }
        seeker.prepare(hole);
        for (int length = 1; length <= k; length++) {
            int first = seeker.firstOf(length, now);
            if (first != NONE) {
                return what == 0 ? length : first;
            }
        }
        return HIDDEN;
    }

    public int order(int what) {
        if (what < 0 || what > 1 || !lidIsShut()) {
            return NONE;
        }
        crowd.gather(now);
        if (!crowd.findsOrder()) {
            return NONE;
        }
        return what == 0 ? crowd.digits : crowd.tries;
    }

    public int run(int plan, int what) {
        int[] steps = stepsOf(plan);
        if (steps == null || what < 0 || what > 2 || !lidIsShut()) {
            return NONE;
        }
        int passed = rehearse(steps);
        if (what == 2) {
            return spare.minute() - now.minute();
        }
        return spare.lid(what == 0 ? OPEN : CRACKED) == 1 ? passed : NONE;
    }

    public int best(boolean hole) {
        if (!lidIsShut()) {
            return NONE;
        }
        int best = NONE;
        int fewest = 0;
        for (int plan = 0; plan < planCount; plan++) {
            int[] steps = stepsOf(plan);
            if (steps == null) {
                continue;
            }
            int passed = rehearse(steps);
            boolean counts = spare.lid(OPEN) == 1 && (hole || !hasHole(steps, passed));
            if (counts && (best == NONE || spare.minute() < fewest)) {
                best = plan;
                fewest = spare.minute();
            }
        }
        return best;
    }

    public int opens(int hands) {
        if (!lidIsShut() || hands < 0 || hands >= 1 << told.counts[HANDS]) {
            return NONE;
        }
        crowd.gather(now);
        return crowd.canOpen(hands) ? 1 : 0;
    }

    public int share(int hand) {
        if (!isHand(hand) || !lidIsShut()) {
            return NONE;
        }
        crowd.gather(now);
        return crowd.ordersDecidedBy(hand);
    }

    public int cheapest(int hand) {
        if (!isHand(hand) || !lidIsShut()) {
            return HIDDEN;
        }
        if (now.wouldOpen(hand, NONE)) {
            return NONE;
        }
        int cheapest = HIDDEN;
        int least = MOST_ITEM + 1;
        for (int tool = 0; tool < told.counts[TOOLS]; tool++) {
            int cost = told.item(TOOLS, tool, COST);
            if (cost < least && now.wouldOpen(hand, tool)) {
                cheapest = tool;
                least = cost;
            }
        }
        return cheapest;
    }

    public int safe() {
        if (!lidIsShut()) {
            return NONE;
        }
        int bears = told.item(JARS, now.onTable(), GLASS) - now.lid(APART);
        return Math.max(0, Math.min(MOST_SECONDS, bears));
    }

    public int enough(int hand, int tool) {
        if (!isHand(hand) || !isTool(tool) || !lidIsShut()) {
            return NONE;
        }
        for (int n = 0; n <= MOST_SECONDS; n++) {
            spare.take(now);
            spare.warm(n);
            if (spare.lid(CRACKED) == 0 && spare.wouldOpen(hand, tool)) {
                return n;
            }
        }
        return NONE;
    }

    public int saves(int tool, int what) {
        if (tool == NONE || !isTool(tool) || what < 0 || what > 2) {
            return NONE;
        }
        int saved = pairsSaved(tool);
        if (what == 0) {
            return saved;
        }
        if (saved == 0) {
            return NONE;
        }
        int cost = told.item(TOOLS, tool, COST);
        int common = commonDivisor(cost, saved);
        if (common == 0) {
            return NONE;
        }
        return (what == 1 ? cost : saved) / common;
    }

    public int openers(int jar, int vacuum) {
        if (!isJar(jar) || vacuum < 0 || vacuum > MOST_ITEM) {
            return NONE;
        }
        spare.restart();
        return openersOf(jar, vacuum);
    }

    public int factory(int jar, int least, int share) {
        if (!isJar(jar) || least < 0 || least > MOST_ITEM || share < 0 || share > 100) {
            return NONE;
        }
        spare.restart();
        for (int vacuum = MOST_ITEM; vacuum >= least; vacuum--) {
            if (openersOf(jar, vacuum) * 100 >= told.counts[HANDS] * share) {
                return vacuum;
            }
        }
        return NONE;
    }

    public int tried(int grip, boolean opened) {
        if (grip < 0 || grip > MOST_GRIP || !guess.adds(grip, opened)) {
            return NONE;
        }
        return guess.count;
    }

    public boolean forgive() {
        if (guess.count == 0) {
            return false;
        }
        guess.clear();
        return true;
    }

    public int tight(int what) {
        switch (what) {
            case 0:
                return guess.holdsOpenedBy(MOST_GRIP);
            case 1:
                return guess.least();
            case 2:
                return guess.greatest();
            default:
                return HIDDEN;
        }
    }

    public int next(int grip) {
        if (grip < 0 || grip > MOST_GRIP) {
            return NONE;
        }
        return guess.holdsOpenedBy(grip);
    }

    public int who(int stuck, int d) {
        if (!ready || stuck < 0 || stuck > MOST_ITEM || d < 0 || d > MOST_ITEM) {
            return NONE;
        }
        int bits = 0;
        for (int hand = 0; hand < told.counts[HANDS]; hand++) {
            int half = told.item(HANDS, hand, TOLD_POWER) / 2;
            if (Math.abs(half - stuck) <= d) {
                bits |= 1 << hand;
            }
        }
        return bits;
    }

    public int lefties() {
        if (!ready) {
            return NONE;
        }
        int bits = 0;
        for (int jar = 0; jar < told.counts[JARS]; jar++) {
            bits |= told.item(JARS, jar, LEFT) << jar;
        }
        return bits;
    }

    public int evening(int n, long seed) {
        if (n < 1 || n > MOST_EVENING || !lidIsShut()) {
            return NONE;
        }
        drawn = seed;
        int made = 0;
        for (int i = 0; i < n && lidIsShut(); i++) {
            int hand = draw(told.counts[HANDS]);
            int tool = draw(told.counts[TOOLS] + 1);
            if (tool == told.counts[TOOLS]) {
                tool = NONE;
            }
            int slip = draw(told.item(HANDS, hand, SLIP) + 1);
            int grip = Math.max(0, now.gripOn(hand, tool, now.onTable()) - slip);
            diary.keep(now);
            now.tryLid(hand, grip);
            diary.note(tryCode(hand, tool), now.minute());
            made++;
        }
        return made;
    }

    public int perform(int plan) {
        int[] steps = stepsOf(plan);
        if (steps == null || !lidIsShut()) {
            return NONE;
        }
        int done = 0;
        for (int i = 0; i < steps.length && lidIsShut(); i++) {
            if (now.can(steps[i])) {
                diary.keep(now);
                now.act(steps[i]);
                diary.note(steps[i], now.minute());
                done++;
            }
        }
        return done;
    }

    public int log(int i, int what) {
        if (i < 0 || i >= diary.notes || what < 0 || what > 1) {
            return NONE;
        }
        return diary.noteAt(i, what);
    }

    public int image() {
        if (!ready) {
            return NONE;
        }
        diary.takeImage(now);
        return now.minute();
    }

    public int back() {
        if (!diary.hasImage) {
            return NONE;
        }
        diary.giveImage(now);
        return now.minute();
    }

    public int count(int what) {
        switch (what) {
            case 0:
            case 1:
            case 2:
                return told.counts[what];
            case 3:
                return lawCount;
            case 4:
                return planCount;
            case 5:
                return tape.length;
            case 6:
                return ready ? now.onTable() : NONE;
            case 7:
                return now.minute();
            case 8:
                return lawHeld;
            case 9:
                return guess.count;
            case 10:
                return diary.scenes;
            case 11:
                return diary.notes;
            default:
                return HIDDEN;
        }
    }

    private boolean isJar(int jar) {
        return jar >= 0 && jar < told.counts[JARS];
    }

    private boolean isHand(int hand) {
        return hand >= 0 && hand < told.counts[HANDS];
    }

    /** NONE stands for a bare hand. */
    private boolean isTool(int tool) {
        return tool >= NONE && tool < told.counts[TOOLS];
    }

    private boolean lidIsShut() {
        return ready && now.isClosed(now.onTable());
    }

    private int[] stepsOf(int plan) {
        return plan >= 0 && plan < planCount ? plans[plan] : null;
    }

    private static int tryCode(int hand, int tool) {
        return TRY + 10 * hand + (tool == NONE ? NO_TOOL : tool);
    }

    private int draw(int m) {
        drawn = drawn * 6364136223846793005L + 1442695040888963407L;
        return m < 1 ? 0 : (int) ((drawn >>> 33) % m);
    }

    /** Does the steps in the spare scene: how many were passed till it was open, cracked or at its end. */
    private int rehearse(int[] steps) {
        spare.take(now);
        int passed = 0;
        for (int i = 0; i < steps.length && spare.isClosed(spare.onTable()); i++) {
            if (spare.can(steps[i])) {
                spare.act(steps[i]);
            }
            passed++;
        }
        return passed;
    }

    private static boolean hasHole(int[] steps, int passed) {
        for (int i = 0; i < passed && i < steps.length; i++) {
            if (steps[i] == HOLE) {
                return true;
            }
        }
        return false;
    }

    private int pairsSaved(int tool) {
        spare.restart();
        int saved = 0;
        for (int jar = 0; jar < told.counts[JARS]; jar++) {
            int hold = spare.hold(jar);
            for (int hand = 0; hand < told.counts[HANDS]; hand++) {
                if (spare.gripOn(hand, tool, jar) >= hold && spare.gripOn(hand, NONE, jar) < hold) {
                    saved++;
                }
            }
        }
        return saved;
    }

    /** In the spare scene, in which all is as told at first. */
    private int openersOf(int jar, int vacuum) {
        spare.cells[jar * JAR_CELLS + VACUUM] = vacuum;
        int openers = 0;
        for (int hand = 0; hand < told.counts[HANDS]; hand++) {
            if (spare.gripOn(hand, NONE, jar) >= spare.hold(jar)) {
                openers++;
            }
        }
        return openers;
    }

    private static int commonDivisor(int a, int b) {
        int large = a;
        int small = b;
        for (int i = 0; i < 100 && small != 0; i++) {
            int rest = large % small;
            large = small;
            small = rest;
        }
        return large;
    }

    /** The bytes fed, and a cursor that reads them over blanks till the first wrong one. */
    private static final class Tape {
        final int[] signs = new int[MOST_BYTES];
        int length;
        int at;
        int wrong = NONE;

        static int bytesOf(int number) {
            int bytes = 0;
            for (int shift = 24; shift >= 0; shift -= 8) {
                if ((number >>> shift & 255) != 0) {
                    bytes++;
                }
            }
            return bytes;
        }

        void add(int number) {
            for (int shift = 24; shift >= 0; shift -= 8) {
                int sign = number >>> shift & 255;
                if (sign != 0 && length < MOST_BYTES) {
                    signs[length] = sign;
                    length++;
                }
            }
        }

        void rewind() {
            at = 0;
            wrong = NONE;
        }

        /** The sign behind blanks; 0 at the end, and behind a fault, so that all reading ends there. */
        int sign() {
            for (int i = 0; i < MOST_BYTES && at < length && signs[at] == ' '; i++) {
                at++;
            }
            return wrong == NONE && at < length ? signs[at] : 0;
        }

        void fail() {
            if (wrong == NONE) {
                wrong = at;
            }
        }

        boolean takes(int sign) {
            if (sign() != sign) {
                return false;
            }
            at++;
            return true;
        }

        void needs(int sign) {
            if (sign() == sign) {
                at++;
            } else {
                fail();
            }
        }

        void needsEnd() {
            if (sign() != 0) {
                fail();
            }
        }

        static boolean isDigit(int sign) {
            return sign >= '0' && sign <= '9';
        }

        int digit() {
            int sign = sign();
            if (!isDigit(sign)) {
                fail();
                return 0;
            }
            at++;
            return sign - '0';
        }

        int number(int mostDigits, int least, int most) {
            if (!isDigit(sign())) {
                fail();
                return least;
            }
            int value = 0;
            for (int i = 0; i < mostDigits && at < length && isDigit(signs[at]); i++) {
                value = value * 10 + signs[at] - '0';
                at++;
            }
            if (at < length && isDigit(signs[at])) {
                fail();
            } else if (value < least || value > most) {
                wrong = at - 1;
            }
            return value;
        }
    }

    /** What a kitchen's text tells. */
    private static final class Told {
        final int[] counts = new int[3];
        final int[] items = new int[TOLD_CELLS];

        void clear() {
            Arrays.fill(counts, 0);
        }

        void take(Told other) {
            System.arraycopy(other.counts, 0, counts, 0, counts.length);
            System.arraycopy(other.items, 0, items, 0, items.length);
        }

        static int cellOf(int kind, int number, int item) {
            return TOLD_AT[kind] + number * ITEMS_OF[kind] + item;
        }

        int item(int kind, int number, int item) {
            return items[cellOf(kind, number, item)];
        }
    }

    private static final class KitchenReader {
        final Tape tape;
        final Told draft = new Told();

        KitchenReader(Tape tape) {
            this.tape = tape;
        }

        int firstWrong() {
            tape.rewind();
            draft.clear();
            boolean more = true;
            for (int i = 0; more && i < MOST_BYTES; i++) {
                readClause();
                more = tape.takes(';');
            }
            tape.needsEnd();
            if (draft.counts[JARS] == 0 || draft.counts[HANDS] == 0) {
                tape.fail();
            }
            return tape.wrong;
        }

        private void readClause() {
            int kind = "jht".indexOf((char) tape.sign());
            if (kind < 0 || draft.counts[kind] >= MOST_OF[kind]) {
                tape.fail();
                return;
            }
            tape.at++;
            int number = draft.counts[kind];
            draft.counts[kind]++;
            for (int item = 0; item < ITEMS_OF[kind]; item++) {
                draft.items[Told.cellOf(kind, number, item)] = USUAL[BOUNDS_AT[kind] + item];
            }
            readItems(kind, number);
        }

        private void readItems(int kind, int number) {
            String letters = lettersOf(kind);
            int there = 0;
            int item = letters.indexOf((char) tape.sign());
            for (int i = 0; i < MOST_BYTES && item >= 0 && (there >> item & 1) == 0; i++) {
                there |= 1 << item;
                tape.at++;
                int bounds = BOUNDS_AT[kind] + item;
                int value = tape.number(2, LEAST[bounds], MOST[bounds]);
                draft.items[Told.cellOf(kind, number, item)] = value;
                item = letters.indexOf((char) tape.sign());
            }
        }

        private static String lettersOf(int kind) {
            if (kind == JARS) {
                return "vsclwg";
            }
            return kind == HANDS ? "pswte" : "ac";
        }
    }

    /** Reads a law into signs that stand behind what they work on; WHEN and STOP end a clause's parts. */
    private static final class LawReader {
        final Tape tape;
        final int[] code = new int[MOST_BYTES + 2];
        int length;

        LawReader(Tape tape) {
            this.tape = tape;
        }

        int firstWrong() {
            tape.rewind();
            length = 0;
            boolean more = true;
            for (int i = 0; more && i < MOST_BYTES; i++) {
                readClause();
                more = tape.takes(';');
            }
            tape.needsEnd();
            return tape.wrong;
        }

        private void put(int sign) {
            if (length < code.length) {
                code[length] = sign;
                length++;
            }
        }

        private void readClause() {
            tape.needs('y');
            tape.needs(':');
            int sign = tape.sign();
            boolean conditional = sign == '!' || sign == '(';
            if (conditional) {
                readCondition(0);
            } else {
                readSum(0);
                if (isRelation(tape.sign())) {
                    conditional = true;
                    readRelation(0);
                    readMoreUnits(0);
                    readMoreTruths(0);
                }
            }
            if (conditional) {
                tape.needs('?');
                put(WHEN);
                readSum(0);
            }
            put(STOP);
        }

        private void readCondition(int within) {
            readTruth(within);
            readMoreTruths(within);
        }

        private void readMoreTruths(int within) {
            for (int i = 0; i < MOST_BYTES && tape.takes('|'); i++) {
                readTruth(within);
                put('|');
            }
        }

        private void readTruth(int within) {
            readUnit(within);
            readMoreUnits(within);
        }

        private void readMoreUnits(int within) {
            for (int i = 0; i < MOST_BYTES && tape.takes('&'); i++) {
                readUnit(within);
                put('&');
            }
        }

        private void readUnit(int within) {
            int sign = tape.sign();
            if (sign == '!') {
                if (enters(within)) {
                    readUnit(within + 1);
                    put('!');
                }
            } else if (sign == '(') {
                if (enters(within)) {
                    readCondition(within + 1);
                    tape.needs(')');
                }
            } else {
                readSum(within);
                readRelation(within);
            }
        }

        private boolean enters(int within) {
            if (within >= MOST_WITHIN) {
                tape.fail();
                return false;
            }
            tape.at++;
            return true;
        }

        private static boolean isRelation(int sign) {
            return sign == '=' || sign == '<' || sign == '>';
        }

        private void readRelation(int within) {
            int sign = tape.sign();
            if (!isRelation(sign)) {
                tape.fail();
                return;
            }
            tape.at++;
            readSum(within);
            put(sign);
        }

        private void readSum(int within) {
            readTerm(within);
            int sign = tape.sign();
            for (int i = 0; i < MOST_BYTES && (sign == '+' || sign == '-'); i++) {
                tape.at++;
                readTerm(within);
                put(sign);
                sign = tape.sign();
            }
        }

        private void readTerm(int within) {
            readAtom(within);
            int sign = tape.sign();
            for (int i = 0; i < MOST_BYTES && (sign == '*' || sign == '/'); i++) {
                tape.at++;
                readAtom(within);
                put(sign);
                sign = tape.sign();
            }
        }

        private void readAtom(int within) {
            int sign = tape.sign();
            int letter = LAW_LETTERS.indexOf((char) sign);
            if (Tape.isDigit(sign)) {
                put(A_NUMBER + tape.number(4, 0, 9999));
            } else if (letter >= 0) {
                tape.at++;
                put(A_LETTER + letter);
            } else if (sign == '[') {
                if (enters(within)) {
                    readSum(within + 1);
                    tape.needs(']');
                }
            } else {
                tape.fail();
            }
        }
    }

    private static final class PlanReader {
        final Tape tape;
        final int[] steps = new int[MOST_STEPS];
        int count;

        PlanReader(Tape tape) {
            this.tape = tape;
        }

        int firstWrong() {
            tape.rewind();
            count = 0;
            boolean more = true;
            for (int i = 0; more && i < MOST_STEPS; i++) {
                steps[i] = readStep();
                count++;
                more = count < MOST_STEPS && tape.takes(';');
            }
            tape.needsEnd();
            return tape.wrong;
        }

        private int readStep() {
            int sign = tape.sign();
            int plain = "tkohw".indexOf((char) sign);
            if (plain < 0 && sign != 'd' && sign != 'y') {
                tape.fail();
                return 0;
            }
            tape.at++;
            if (plain >= 0) {
                return plain;
            }
            int hand = tape.digit();
            return sign == 'd' ? DRY + hand : TRY + 10 * hand + tape.digit();
        }
    }

    /** What a hand grips, by letters: the plain rule, or a law's signs. */
    private static final class Grips {
        /** In the order of LAW_LETTERS. */
        final int[] letters = new int[6];
        final int[] stack = new int[64];
        /** Null: none holds. */
        int[] law;

        int plainWorth() {
            int tooWide = letters[3] > letters[1] ? letters[3] - letters[1] : 0;
            return letters[0] + letters[5] - 4 * letters[2] - 3 * tooWide - letters[4];
        }

        int lawWorth(int[] code) {
            int height = 0;
            boolean skips = false;
            for (int i = 0; i < code.length; i++) {
                int sign = code[i];
                if (skips) {
                    skips = sign != STOP;
                } else if (sign == STOP) {
                    return stack[0];
                } else if (sign == WHEN) {
                    skips = stack[0] == 0;
                    height = 0;
                } else if (sign >= A_LETTER) {
                    if (height < stack.length) {
                        stack[height] = valueOf(sign);
                        height++;
                    }
                } else if (sign == '!') {
                    if (height >= 1) {
                        stack[height - 1] = 1 - stack[height - 1];
                    }
                } else if (height >= 2) {
                    height--;
                    stack[height - 1] = joined(sign, stack[height - 1], stack[height]);
                }
            }
            return 0;
        }

        private int valueOf(int sign) {
            if (sign >= A_NUMBER) {
                return sign - A_NUMBER;
            }
            int letter = sign - A_LETTER;
            return letter >= 0 && letter < letters.length ? letters[letter] : 0;
        }

        private static int joined(int sign, int left, int right) {
            long joined;
            switch (sign) {
                case '+':
                    joined = (long) left + right;
                    break;
                case '-':
                    joined = (long) left - right;
                    break;
                case '*':
                    joined = (long) left * right;
                    break;
                case '/':
                    joined = right == 0 ? 0 : left / right;
                    break;
                case '=':
                    return left == right ? 1 : 0;
                case '<':
                    return left < right ? 1 : 0;
                case '>':
                    return left > right ? 1 : 0;
                case '&':
                    return left & right;
                default:
                    return left | right;
            }
            return joined > MOST_NUMBER ? MOST_NUMBER : joined < -MOST_NUMBER ? -MOST_NUMBER : (int) joined;
        }
    }

    /** Jars, hands, what was loosened, the table and the minute, in one row so that it is copied at once. */
    private static final class Scene {
        final Told told;
        final Grips grips;
        final int[] cells = new int[SCENE_CELLS];

        Scene(Told told, Grips grips) {
            this.told = told;
            this.grips = grips;
        }

        void restart() {
            Arrays.fill(cells, 0);
            for (int jar = 0; jar < told.counts[JARS]; jar++) {
                for (int cell = VACUUM; cell <= COLD; cell++) {
                    cells[jar * JAR_CELLS + cell] = told.item(JARS, jar, cell);
                }
            }
            for (int hand = 0; hand < told.counts[HANDS]; hand++) {
                setHand(hand, POWER, told.item(HANDS, hand, TOLD_POWER));
                setHand(hand, WET, told.item(HANDS, hand, TOLD_WET));
            }
        }

        void take(Scene other) {
            System.arraycopy(other.cells, 0, cells, 0, SCENE_CELLS);
        }

        int onTable() {
            return cells[TABLE_AT];
        }

        int minute() {
            return cells[MINUTE_AT];
        }

        int jarCell(int jar, int cell) {
            return cells[jar * JAR_CELLS + cell];
        }

        /** A cell of the jar on the table. */
        int lid(int cell) {
            return cells[cells[TABLE_AT] * JAR_CELLS + cell];
        }

        private void setLid(int cell, int value) {
            cells[cells[TABLE_AT] * JAR_CELLS + cell] = value;
        }

        private void lessenLid(int cell, int by) {
            setLid(cell, Math.max(0, lid(cell) - by));
        }

        int handCell(int hand, int cell) {
            return cells[HANDS_AT + hand * HAND_CELLS + cell];
        }

        private void setHand(int hand, int cell, int value) {
            cells[HANDS_AT + hand * HAND_CELLS + cell] = value;
        }

        private int loosenedCell(int hand) {
            return LOOSENED_AT + cells[TABLE_AT] * MOST_OF[HANDS] + hand;
        }

        int loosened(int hand) {
            return cells[loosenedCell(hand)];
        }

        boolean isClosed(int jar) {
            return jarCell(jar, OPEN) == 0 && jarCell(jar, CRACKED) == 0;
        }

        int hold(int jar) {
            return jarCell(jar, VACUUM) + jarCell(jar, STUCK) + 2 * jarCell(jar, COLD);
        }

        int gripOn(int hand, int tool, int jar) {
            int[] letters = grips.letters;
            letters[0] = handCell(hand, POWER);
            letters[1] = told.item(HANDS, hand, SIZE);
            letters[2] = handCell(hand, WET);
            letters[3] = told.item(JARS, jar, WIDE);
            letters[4] = jarCell(jar, COLD);
            letters[5] = tool == NONE ? 0 : told.item(TOOLS, tool, ADDS);
            int worth = grips.law == null ? grips.plainWorth() : grips.lawWorth(grips.law);
            return worth < 0 ? 0 : worth > MOST_GRIP ? MOST_GRIP : worth;
        }

        boolean wouldOpen(int hand, int tool) {
            return gripOn(hand, tool, onTable()) >= hold(onTable());
        }

        void tryLid(int hand, int grip) {
            if (grip >= hold(onTable())) {
                setLid(OPEN, 1);
            } else {
                int stuck = lid(STUCK);
                lessenLid(STUCK, grip / 10);
                cells[loosenedCell(hand)] += stuck - lid(STUCK);
            }
            tire(hand);
        }

        void tryWrongSide(int hand) {
            setLid(STUCK, Math.min(MOST_ITEM, lid(STUCK) + 2));
            tire(hand);
        }

        private void tire(int hand) {
            setHand(hand, POWER, Math.max(0, handCell(hand, POWER) - told.item(HANDS, hand, TIRES)));
            cells[MINUTE_AT]++;
        }

        void warm(int n) {
            setLid(APART, lid(APART) + n);
            lessenLid(COLD, n / 10);
            lessenLid(STUCK, n / 5);
            if (lid(APART) > told.item(JARS, onTable(), GLASS)) {
                setLid(CRACKED, 1);
            }
            cells[MINUTE_AT]++;
        }

        void chill() {
            setLid(COLD, Math.min(MOST_COLD, lid(COLD) + 3));
            cells[MINUTE_AT]++;
        }

        void rest(int n) {
            for (int jar = 0; jar < told.counts[JARS]; jar++) {
                int cell = jar * JAR_CELLS + APART;
                cells[cell] = Math.max(0, cells[cell] - 2 * n);
            }
            for (int hand = 0; hand < told.counts[HANDS]; hand++) {
                int most = told.item(HANDS, hand, TOLD_POWER);
                setHand(hand, POWER, Math.min(most, handCell(hand, POWER) + n));
                setHand(hand, WET, Math.max(0, handCell(hand, WET) - n / 10));
            }
            cells[MINUTE_AT] += n;
        }

        void close(int hand) {
            setLid(OPEN, 0);
            setLid(STUCK, handCell(hand, POWER) / 2);
            setLid(VACUUM, 0);
            for (int other = 0; other < told.counts[HANDS]; other++) {
                cells[loosenedCell(other)] = 0;
            }
            cells[MINUTE_AT]++;
        }

        /** Whether the hand and the tool of an act, told by its number, are there. */
        boolean can(int code) {
            if (code < DRY) {
                return true;
            }
            if (code < TRY) {
                return code - DRY < told.counts[HANDS];
            }
            int tool = (code - TRY) % 10;
            return (code - TRY) / 10 < told.counts[HANDS] && (tool == NO_TOOL || tool < told.counts[TOOLS]);
        }

        /** Does an act told by its number; the hand and the tool are there. */
        void act(int code) {
            if (code >= TRY) {
                int hand = (code - TRY) / 10;
                int tool = (code - TRY) % 10;
                tryLid(hand, gripOn(hand, tool == NO_TOOL ? NONE : tool, onTable()));
            } else if (code >= DRY) {
                setHand(code - DRY, WET, 0);
                cells[MINUTE_AT]++;
            } else if (code == HEAT_TEN) {
                warm(TEN);
            } else if (code == WAIT_TEN) {
                rest(TEN);
            } else {
                workOnLid(code);
            }
        }

        private void workOnLid(int code) {
            if (code == TAP) {
                lessenLid(STUCK, 3);
            } else if (code == KNOCK) {
                lessenLid(VACUUM, 4);
            } else {
                setLid(VACUUM, 0);
                setLid(HOLED, 1);
            }
            cells[MINUTE_AT]++;
        }
    }

    /** The scenes ahead of the latest acts and the log, both as rings, and the image. */
    private static final class Diary {
        final int[] rows = new int[MOST_UNDONE * SCENE_CELLS];
        final int[] which = new int[MOST_NOTES];
        final int[] minutes = new int[MOST_NOTES];
        final int[] image = new int[SCENE_CELLS];
        boolean hasImage;
        int nextRow;
        int scenes;
        int nextNote;
        int notes;

        void clear() {
            scenes = 0;
            notes = 0;
            hasImage = false;
        }

        void takeImage(Scene scene) {
            System.arraycopy(scene.cells, 0, image, 0, SCENE_CELLS);
            hasImage = true;
        }

        void giveImage(Scene scene) {
            System.arraycopy(image, 0, scene.cells, 0, SCENE_CELLS);
            scenes = 0;
        }

        void keep(Scene scene) {
            System.arraycopy(scene.cells, 0, rows, nextRow * SCENE_CELLS, SCENE_CELLS);
            nextRow = (nextRow + 1) % MOST_UNDONE;
            scenes = Math.min(MOST_UNDONE, scenes + 1);
        }

        void note(int code, int minute) {
            which[nextNote] = code;
            minutes[nextNote] = minute;
            nextNote = (nextNote + 1) % MOST_NOTES;
            notes = Math.min(MOST_NOTES, notes + 1);
        }

        int takeBack(Scene scene) {
            if (scenes == 0) {
                return NONE;
            }
            nextRow = (nextRow + MOST_UNDONE - 1) % MOST_UNDONE;
            System.arraycopy(rows, nextRow * SCENE_CELLS, scene.cells, 0, SCENE_CELLS);
            scenes--;
            nextNote = (nextNote + MOST_NOTES - 1) % MOST_NOTES;
            notes = Math.max(0, notes - 1);
            return scenes;
        }

        int noteAt(int i, int what) {
            int place = (nextNote + 2 * MOST_NOTES - 1 - i) % MOST_NOTES;
            if (place < 0) {
                return NONE;
            }
            return what == 0 ? which[place] : minutes[place];
        }
    }

    /** Seeks the shortest row of acts that opens the jar on the table. */
    private static final class Seeker {
        final Told told;
        final Scene one;
        final Scene two;
        final int[] acts = new int[5 + 6 + 6 * 5];
        int actCount;
        /** Grips told before in this search: a hand's greatest one, by its power, wet and the jar's cold. */
        final int[] keys = new int[6 * MOST_KNOWN];
        final int[] greatest = new int[6 * MOST_KNOWN];
        final int[] known = new int[6];

        Seeker(Told told, Grips grips) {
            this.told = told;
            one = new Scene(told, grips);
            two = new Scene(told, grips);
        }

        void prepare(boolean hole) {
            Arrays.fill(known, 0);
            listActs(hole);
        }

        private void listActs(boolean hole) {
            actCount = 0;
            for (int code = TAP; code <= WAIT_TEN; code++) {
                if (code != HOLE || hole) {
                    addAct(code);
                }
            }
            for (int hand = 0; hand < told.counts[HANDS]; hand++) {
                addAct(DRY + hand);
            }
            for (int hand = 0; hand < told.counts[HANDS]; hand++) {
                for (int tool = 0; tool < told.counts[TOOLS]; tool++) {
                    addAct(tryCode(hand, tool));
                }
                addAct(tryCode(hand, NONE));
            }
        }

        private void addAct(int code) {
            if (actCount < acts.length) {
                acts[actCount] = code;
                actCount++;
            }
        }

        /** The least first act of a row of so many acts that opens it, if no shorter row does. */
        int firstOf(int length, Scene now) {
            for (int i = 0; i < actCount; i++) {
                one.take(now);
                one.act(acts[i]);
                boolean opens;
                if (length == 1) {
                    opens = one.lid(OPEN) == 1;
                } else if (one.lid(CRACKED) == 1) {
                    opens = false;
                } else {
                    opens = length == 2 ? opensByTry(one) : opensInTwo(one);
                }
                if (opens) {
                    return acts[i];
                }
            }
            return NONE;
        }

        /** Of a hand's tries that do not open it the one with the greatest grip leaves the least hold. */
        private boolean opensInTwo(Scene scene) {
            for (int i = 0; i < actCount && acts[i] < TRY; i++) {
                two.take(scene);
                two.act(acts[i]);
                if (two.lid(CRACKED) == 0 && opensByTry(two)) {
                    return true;
                }
            }
            for (int hand = 0; hand < told.counts[HANDS]; hand++) {
                two.take(scene);
                two.tryLid(hand, greatestGrip(scene, hand));
                if (opensByTry(two)) {
                    return true;
                }
            }
            return false;
        }

        private boolean opensByTry(Scene scene) {
            int hold = scene.hold(scene.onTable());
            for (int hand = 0; hand < told.counts[HANDS]; hand++) {
                if (greatestGrip(scene, hand) >= hold) {
                    return true;
                }
            }
            return false;
        }

        private int greatestGrip(Scene scene, int hand) {
            int key = (scene.handCell(hand, POWER) * 10 + scene.handCell(hand, WET)) * 10 + scene.lid(COLD);
            int from = hand * MOST_KNOWN;
            int to = from + known[hand];
            for (int i = from; i < to && i < keys.length; i++) {
                if (keys[i] == key) {
                    return greatest[i];
                }
            }
            int grip = scene.gripOn(hand, NONE, scene.onTable());
            for (int tool = 0; tool < told.counts[TOOLS]; tool++) {
                grip = Math.max(grip, scene.gripOn(hand, tool, scene.onTable()));
            }
            if (known[hand] < MOST_KNOWN) {
                keys[to] = key;
                greatest[to] = grip;
                known[hand]++;
            }
            return grip;
        }
    }

    /** Hands that try one behind the other, bare and once each: none of them changes another one's grip. */
    private static final class Crowd {
        final int[] grips = new int[6];
        int hands;
        int stuck;
        /** What of the hold no try changes. */
        int rest;
        int digits;
        int tries;

        void gather(Scene scene) {
            hands = scene.told.counts[HANDS];
            for (int hand = 0; hand < hands; hand++) {
                grips[hand] = scene.gripOn(hand, NONE, scene.onTable());
            }
            stuck = scene.lid(STUCK);
            rest = scene.hold(scene.onTable()) - stuck;
        }

        private int stuckBehind(int hand, int before) {
            return Math.max(0, before - grips[hand] / 10);
        }

        boolean canOpen(int set) {
            int left = stuck;
            for (int hand = 0; hand < hands; hand++) {
                if ((set >> hand & 1) == 1) {
                    if (grips[hand] >= rest + left) {
                        return true;
                    }
                    left = stuckBehind(hand, left);
                }
            }
            return false;
        }

        int ordersDecidedBy(int hand) {
            int orders = 0;
            for (int set = 0; set < 1 << hands; set++) {
                if ((set >> hand & 1) == 0 && !canOpen(set) && canOpen(set | 1 << hand)) {
                    int ahead = Integer.bitCount(set);
                    orders += factorial(ahead) * factorial(hands - ahead - 1);
                }
            }
            return orders;
        }

        private static int factorial(int n) {
            int product = 1;
            for (int i = 2; i <= n; i++) {
                product *= i;
            }
            return product;
        }

        boolean findsOrder() {
            for (int length = 1; length <= hands; length++) {
                int found = orderOf(length, 0, stuck, 0);
                if (found != NONE) {
                    digits = found;
                    tries = length;
                    return true;
                }
            }
            return false;
        }

        /** The least order whose next 'left' tries open it at the last of them, if no shorter one does. */
        private int orderOf(int left, int used, int stuckNow, int begun) {
            for (int hand = 0; hand < hands; hand++) {
                if ((used >> hand & 1) == 1) {
                    continue;
                }
                int set = used | 1 << hand;
                int found = NONE;
                if (left > 1) {
                    found = orderOf(left - 1, set, stuckBehind(hand, stuckNow), begun * 10 + hand);
                } else if (grips[hand] >= rest + stuckNow) {
                    found = filled(begun * 10 + hand, set);
                }
                if (found != NONE) {
                    return found;
                }
            }
            return NONE;
        }

        private int filled(int begun, int used) {
            int order = begun;
            for (int hand = 0; hand < hands; hand++) {
                if ((used >> hand & 1) == 0) {
                    order = order * 10 + hand;
                }
            }
            return order;
        }
    }

    /** What was tried on some jar, and the holds that it leaves. */
    private static final class Guess {
        final int[] grips = new int[MOST_TRIED];
        int count;
        boolean opened;

        void clear() {
            count = 0;
            opened = false;
        }

        boolean adds(int grip, boolean opens) {
            if (count >= MOST_TRIED || opened) {
                return false;
            }
            grips[count] = grip;
            count++;
            opened = opens;
            return true;
        }

        /** The hold behind all tries, of one that was so much at first; NONE if a try tells against it. */
        private int holdNow(int atFirst) {
            int hold = atFirst;
            for (int i = 0; i < count; i++) {
                boolean opens = opened && i == count - 1;
                if (grips[i] >= hold != opens) {
                    return NONE;
                }
                if (!opens) {
                    hold = Math.max(0, hold - grips[i] / 10);
                }
            }
            return hold;
        }

        int holdsOpenedBy(int grip) {
            int holds = 0;
            for (int hold = 0; hold <= MOST_HOLD; hold++) {
                int left = holdNow(hold);
                if (left != NONE && left <= grip) {
                    holds++;
                }
            }
            return holds;
        }

        int least() {
            for (int hold = 0; hold <= MOST_HOLD; hold++) {
                if (holdNow(hold) != NONE) {
                    return hold;
                }
            }
            return NONE;
        }

        int greatest() {
            for (int hold = MOST_HOLD; hold >= 0; hold--) {
                if (holdNow(hold) != NONE) {
                    return hold;
                }
            }
            return NONE;
        }
    }
}
