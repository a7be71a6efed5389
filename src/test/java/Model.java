import java.util.ArrayList;
import java.util.List;

/** The document told a second time, as plainly as it goes and without a thought for speed or room. */
final class Model {
    static final int NONE = -1;
    static final int HIDDEN = -1000000;

    static final class Jar {
        int vacuum;
        int stuck;
        int cold;
        int left;
        int wide;
        int glass;
        int apart;
        boolean holed;
        boolean open;
        boolean cracked;
        int[] loosened = new int[6];

        Jar(int[] told) {
            vacuum = told[0];
            stuck = told[1];
            cold = told[2];
            left = told[3];
            wide = told[4];
            glass = told[5];
        }

        Jar copy() {
            Jar copy = new Jar(new int[] {vacuum, stuck, cold, left, wide, glass});
            copy.apart = apart;
            copy.holed = holed;
            copy.open = open;
            copy.cracked = cracked;
            copy.loosened = loosened.clone();
            return copy;
        }

        int hold() {
            return vacuum + stuck + 2 * cold;
        }

        boolean closed() {
            return !open && !cracked;
        }
    }

    static final class Hand {
        int power;
        int size;
        int wet;
        int tires;
        int slip;
        int told;

        Hand(int[] row) {
            power = row[0];
            size = row[1];
            wet = row[2];
            tires = row[3];
            slip = row[4];
            told = row[0];
        }

        Hand copy() {
            Hand copy = new Hand(new int[] {power, size, wet, tires, slip});
            copy.told = told;
            return copy;
        }
    }

    /** A kitchen at some moment. */
    final class World {
        final List<Jar> jars = new ArrayList<>();
        final List<Hand> hands = new ArrayList<>();
        int table;
        int minute;

        World copy() {
            World copy = new World();
            jars.forEach(jar -> copy.jars.add(jar.copy()));
            hands.forEach(hand -> copy.hands.add(hand.copy()));
            copy.table = table;
            copy.minute = minute;
            return copy;
        }

        Jar lid() {
            return jars.get(table);
        }

        int grip(int hand, int tool, Jar jar) {
            Hand h = hands.get(hand);
            int adds = tool < 0 ? 0 : tools.get(tool)[0];
            long worth;
            if (law < 0) {
                worth = h.power + adds - 4 * h.wet - 3 * Math.max(0, jar.wide - h.size) - jar.cold;
            } else {
                worth = TextModel.worth(laws.get(law), new int[] {h.power, h.size, h.wet, jar.wide, jar.cold, adds});
            }
            return (int) Math.max(0, Math.min(999, worth));
        }

        void tryLid(int hand, int grip, boolean rightSide) {
            Jar jar = lid();
            if (!rightSide) {
                jar.stuck = Math.min(99, jar.stuck + 2);
            } else if (grip >= jar.hold()) {
                jar.open = true;
            } else {
                int by = Math.min(jar.stuck, grip / 10);
                jar.stuck -= by;
                jar.loosened[hand] += by;
            }
            Hand h = hands.get(hand);
            h.power = Math.max(0, h.power - h.tires);
            minute++;
        }

        void heat(int n) {
            Jar jar = lid();
            jar.apart += n;
            jar.cold = Math.max(0, jar.cold - n / 10);
            jar.stuck = Math.max(0, jar.stuck - n / 5);
            jar.cracked = jar.apart > jar.glass;
            minute++;
        }

        void rest(int n) {
            for (Jar jar : jars) {
                jar.apart = Math.max(0, jar.apart - 2 * n);
            }
            for (Hand hand : hands) {
                hand.power = Math.min(hand.told, hand.power + n);
                hand.wet = Math.max(0, hand.wet - n / 10);
            }
            minute += n;
        }

        /** Whether the act, told as a number, can be; then it is done. */
        boolean does(int code) {
            Jar jar = lid();
            if (code >= 100) {
                int hand = code / 10 % 10;
                int tool = code % 10 == 9 ? -1 : code % 10;
                if (hand >= hands.size() || tool >= tools.size()) {
                    return false;
                }
                tryLid(hand, grip(hand, tool, jar), true);
            } else if (code >= 10) {
                if (code - 10 >= hands.size()) {
                    return false;
                }
                hands.get(code - 10).wet = 0;
                minute++;
            } else if (code == 3) {
                heat(10);
            } else if (code == 4) {
                rest(10);
            } else {
                switch (code) {
                    case 0 -> jar.stuck = Math.max(0, jar.stuck - 3);
                    case 1 -> jar.vacuum = Math.max(0, jar.vacuum - 4);
                    case 2 -> {
                        jar.vacuum = 0;
                        jar.holed = true;
                    }
                    default -> jar.cold = Math.min(9, jar.cold + 3);
                }
                minute++;
            }
            return true;
        }
    }

    StringBuilder tape = new StringBuilder();
    final List<String> laws = new ArrayList<>();
    final List<List<Integer>> plans = new ArrayList<>();
    List<int[]> toldJars = new ArrayList<>();
    List<int[]> toldHands = new ArrayList<>();
    List<int[]> tools = new ArrayList<>();
    int law = NONE;
    World world;
    World image;
    final List<World> past = new ArrayList<>();
    final List<int[]> notes = new ArrayList<>();
    final List<Integer> grips = new ArrayList<>();
    boolean opened;

    int feed(int... words) {
        StringBuilder more = new StringBuilder();
        for (int word : words) {
            for (int shift = 24; shift >= 0; shift -= 8) {
                if ((word >> shift & 255) != 0) {
                    more.append((char) (word >> shift & 255));
                }
            }
        }
        if (tape.length() + more.length() > 200) {
            return NONE;
        }
        return tape.append(more).length();
    }

    boolean end(int n) {
        if (n < 0 || n > tape.length()) {
            return false;
        }
        tape.setLength(n);
        return true;
    }

    int fault(int sort) {
        return switch (sort) {
            case 0 -> TextModel.kitchenFault(tape.toString());
            case 1 -> TextModel.lawFault(tape.toString());
            case 2 -> TextModel.planFault(tape.toString());
            default -> -2;
        };
    }

    int text(int sort) {
        if (fault(sort) != NONE || sort == 1 && laws.size() == 4 || sort == 2 && plans.size() == 4) {
            return NONE;
        }
        String text = tape.toString();
        tape.setLength(0);
        if (sort == 1) {
            laws.add(text);
            return laws.size() - 1;
        }
        if (sort == 2) {
            plans.add(TextModel.steps(text));
            return plans.size() - 1;
        }
        toldJars = TextModel.rows(text, 0);
        toldHands = TextModel.rows(text, 1);
        tools = TextModel.rows(text, 2);
        law = NONE;
        world = first();
        image = null;
        past.clear();
        notes.clear();
        grips.clear();
        opened = false;
        return toldJars.size();
    }

    World first() {
        World first = new World();
        toldJars.forEach(row -> first.jars.add(new Jar(row)));
        toldHands.forEach(row -> first.hands.add(new Hand(row)));
        return first;
    }

    boolean isJar(int jar) {
        return jar >= 0 && jar < toldJars.size();
    }

    boolean isHand(int hand) {
        return hand >= 0 && hand < toldHands.size();
    }

    boolean isTool(int tool) {
        return tool >= -1 && tool < tools.size();
    }

    boolean closed() {
        return world != null && world.lid().closed();
    }

    int jar(int jar, int what) {
        if (!isJar(jar) || what < 0 || what > 10) {
            return Check.THROWN;
        }
        Jar j = world.jars.get(jar);
        return new int[] {j.vacuum, j.stuck, j.cold, j.left, j.wide, j.glass, j.apart, j.holed ? 1 : 0,
            j.open ? 1 : 0, j.cracked ? 1 : 0, j.hold()}[what];
    }

    int hand(int hand, int what) {
        if (!isHand(hand) || what < 0 || what > 6) {
            return NONE;
        }
        Hand h = world.hands.get(hand);
        return new int[] {h.power, h.size, h.wet, h.tires, h.slip, h.told, world.lid().loosened[hand]}[what];
    }

    int tool(int tool, int what) {
        return tool < 0 || tool >= tools.size() || what < 0 || what > 1 ? NONE : tools.get(tool)[what];
    }

    boolean law(int law) {
        if (world == null || law < -1 || law >= laws.size()) {
            return false;
        }
        this.law = law;
        return true;
    }

    int step(int plan, int i) {
        if (plan < 0 || plan >= plans.size() || i < 0 || i >= plans.get(plan).size()) {
            return NONE;
        }
        return plans.get(plan).get(i);
    }

    int grip(int hand, int tool, int jar) {
        return isHand(hand) && isTool(tool) && isJar(jar) ? world.grip(hand, tool, world.jars.get(jar)) : NONE;
    }

    int lacks(int hand, int tool, int jar) {
        if (!isHand(hand) || !isTool(tool) || !isJar(jar) || !world.jars.get(jar).closed()) {
            return NONE;
        }
        return Math.max(0, world.jars.get(jar).hold() - grip(hand, tool, jar));
    }

    private void before() {
        past.add(world.copy());
        if (past.size() > 40) {
            past.remove(0);
        }
    }

    private void after(int code) {
        notes.add(new int[] {code, world.minute});
        if (notes.size() > 60) {
            notes.remove(0);
        }
    }

    private static int tryCode(int hand, int tool) {
        return 100 + 10 * hand + (tool < 0 ? 9 : tool);
    }

    int turn(int hand, int tool, int side) {
        if (!isHand(hand) || !isTool(tool) || side < 0 || side > 1 || !closed()) {
            return NONE;
        }
        boolean right = side == world.lid().left;
        before();
        world.tryLid(hand, grip(hand, tool, world.table), right);
        after(tryCode(hand, tool) + (right ? 0 : 1000));
        return world.lid().open ? 1 : 0;
    }

    int heat(int n) {
        if (n < 1 || n > 60 || !closed()) {
            return NONE;
        }
        before();
        world.heat(n);
        after(n == 10 ? 3 : 5);
        return world.lid().cracked ? 1 : 0;
    }

    int work(int what) {
        if (what < 0 || what > 3 || !closed()) {
            return NONE;
        }
        before();
        world.does(what == 3 ? 7 : what);
        after(what == 3 ? 7 : what);
        return world.lid().hold();
    }

    boolean dry(int hand) {
        if (!isHand(hand)) {
            return false;
        }
        before();
        world.does(10 + hand);
        after(10 + hand);
        return true;
    }

    int pause(int n) {
        if (world == null || n < 1 || n > 60) {
            return NONE;
        }
        before();
        world.rest(n);
        after(n == 10 ? 4 : 6);
        return world.minute;
    }

    int shut(int hand) {
        if (!isHand(hand) || !world.lid().open) {
            return NONE;
        }
        before();
        Jar jar = world.lid();
        jar.open = false;
        jar.stuck = world.hands.get(hand).power / 2;
        jar.vacuum = 0;
        jar.loosened = new int[6];
        world.minute++;
        after(20 + hand);
        return jar.hold();
    }

    boolean table(int jar) {
        if (!isJar(jar) || world.table == jar) {
            return false;
        }
        before();
        world.table = jar;
        after(30 + jar);
        return true;
    }

    int undo() {
        if (past.isEmpty()) {
            return NONE;
        }
        world = past.remove(past.size() - 1);
        notes.remove(notes.size() - 1);
        return past.size();
    }

    private List<Integer> acts(boolean hole) {
        List<Integer> acts = new ArrayList<>();
        for (int code = 0; code < 200; code++) {
            boolean there = code < 5 && (hole || code != 2) || code >= 10 && code < 20 || code >= 100;
            if (there && world.copy().does(code)) {
                acts.add(code);
            }
        }
        return acts;
    }

    /** Whether a row of just so many acts opens it. */
    private boolean opensBy(World from, int many, List<Integer> acts) {
        if (many == 0) {
            return from.lid().open;
        }
        if (!from.lid().closed()) {
            return false;
        }
        for (int act : acts) {
            World behind = from.copy();
            behind.does(act);
            if (opensBy(behind, many - 1, acts)) {
                return true;
            }
        }
        return false;
    }

    int soonest(int k, boolean hole, int what) {
        if (world == null || k < 1 || k > 3 || what < 0 || what > 1 || world.lid().cracked) {
            return HIDDEN;
        }
        if (world.lid().open) {
            return what == 0 ? 0 : NONE;
        }
        List<Integer> acts = acts(hole);
        for (int many = 1; many <= k; many++) {
            for (int act : acts) {
                World behind = world.copy();
                behind.does(act);
                if (opensBy(behind, many - 1, acts)) {
                    return what == 0 ? many : act;
                }
            }
        }
        return HIDDEN;
    }

    private void orders(String begun, List<String> all) {
        if (begun.length() == toldHands.size()) {
            all.add(begun);
        }
        for (int hand = 0; hand < toldHands.size(); hand++) {
            if (begun.indexOf('0' + hand) < 0) {
                orders(begun + hand, all);
            }
        }
    }

    /** Behind how many tries of these hands it is open; NONE if it is not. */
    private int triesOf(String hands) {
        World apart = world.copy();
        for (int i = 0; i < hands.length(); i++) {
            int hand = hands.charAt(i) - '0';
            apart.tryLid(hand, apart.grip(hand, -1, apart.lid()), true);
            if (apart.lid().open) {
                return i + 1;
            }
        }
        return NONE;
    }

    int order(int what) {
        if (!closed() || what < 0 || what > 1) {
            return NONE;
        }
        List<String> all = new ArrayList<>();
        orders("", all);
        int fewest = NONE;
        int least = NONE;
        for (String order : all) {
            int tries = triesOf(order);
            if (tries != NONE && (fewest == NONE || tries < fewest
                    || tries == fewest && Integer.parseInt(order) < least)) {
                fewest = tries;
                least = Integer.parseInt(order);
            }
        }
        return what == 0 ? least : fewest;
    }

    /** Opened or cracked behind so many steps, the minutes, whether a hole was made. */
    private int[] runOf(int plan) {
        World apart = world.copy();
        int passed = 0;
        boolean hole = false;
        for (int step : plans.get(plan)) {
            if (apart.lid().closed()) {
                passed++;
                hole |= step == 2;
                apart.does(step);
            }
        }
        return new int[] {apart.lid().open ? passed : NONE, apart.lid().cracked ? passed : NONE,
            apart.minute - world.minute, hole ? 1 : 0};
    }

    int run(int plan, int what) {
        if (plan < 0 || plan >= plans.size() || what < 0 || what > 2 || !closed()) {
            return NONE;
        }
        return runOf(plan)[what];
    }

    int best(boolean hole) {
        int best = NONE;
        for (int plan = 0; closed() && plan < plans.size(); plan++) {
            int[] run = runOf(plan);
            if (run[0] != NONE && (hole || run[3] == 0) && (best == NONE || run[2] < runOf(best)[2])) {
                best = plan;
            }
        }
        return best;
    }

    private boolean opensIt(int set) {
        StringBuilder hands = new StringBuilder();
        for (int hand = 0; hand < toldHands.size(); hand++) {
            if ((set >> hand & 1) == 1) {
                hands.append(hand);
            }
        }
        return triesOf(hands.toString()) != NONE;
    }

    int opens(int hands) {
        return !closed() || hands < 0 || hands >= 1 << toldHands.size() ? NONE : opensIt(hands) ? 1 : 0;
    }

    int share(int hand) {
        if (!isHand(hand) || !closed()) {
            return NONE;
        }
        boolean[] opening = new boolean[64];
        for (int set = 0; set < 1 << toldHands.size(); set++) {
            opening[set] = opensIt(set);
        }
        List<String> all = new ArrayList<>();
        orders("", all);
        int share = 0;
        for (String order : all) {
            int ahead = 0;
            for (int i = 0; order.charAt(i) - '0' != hand; i++) {
                ahead |= 1 << order.charAt(i) - '0';
            }
            if (!opening[ahead] && opening[ahead | 1 << hand]) {
                share++;
            }
        }
        return share;
    }

    private boolean opensNow(World apart, int hand, int tool) {
        return apart.lid().closed() && apart.grip(hand, tool, apart.lid()) >= apart.lid().hold();
    }

    int cheapest(int hand) {
        if (!isHand(hand) || !closed()) {
            return HIDDEN;
        }
        if (opensNow(world, hand, -1)) {
            return NONE;
        }
        for (int cost = 0; cost <= 99; cost++) {
            for (int tool = 0; tool < tools.size(); tool++) {
                if (tools.get(tool)[1] == cost && opensNow(world, hand, tool)) {
                    return tool;
                }
            }
        }
        return HIDDEN;
    }

    int safe() {
        if (!closed()) {
            return NONE;
        }
        for (int n = 60; n >= 1; n--) {
            World apart = world.copy();
            apart.heat(n);
            if (!apart.lid().cracked) {
                return n;
            }
        }
        return 0;
    }

    int enough(int hand, int tool) {
        if (!isHand(hand) || !isTool(tool) || !closed()) {
            return NONE;
        }
        for (int n = 0; n <= 60; n++) {
            World apart = world.copy();
            if (n > 0) {
                apart.heat(n);
            }
            if (opensNow(apart, hand, tool)) {
                return n;
            }
        }
        return NONE;
    }

    int saves(int tool, int what) {
        if (tool < 0 || tool >= tools.size() || what < 0 || what > 2) {
            return NONE;
        }
        World first = first();
        int many = 0;
        for (Jar jar : first.jars) {
            for (int hand = 0; hand < toldHands.size(); hand++) {
                if (first.grip(hand, tool, jar) >= jar.hold() && first.grip(hand, -1, jar) < jar.hold()) {
                    many++;
                }
            }
        }
        if (what == 0 || many == 0) {
            return what == 0 ? many : NONE;
        }
        int above = tools.get(tool)[1];
        for (int by = 100; by > 1; by--) {
            if (above % by == 0 && many % by == 0) {
                above /= by;
                many /= by;
            }
        }
        return what == 1 ? above : many;
    }

    int openers(int jar, int vacuum) {
        if (!isJar(jar) || vacuum < 0 || vacuum > 99) {
            return NONE;
        }
        World first = first();
        first.jars.get(jar).vacuum = vacuum;
        int many = 0;
        for (int hand = 0; hand < toldHands.size(); hand++) {
            if (first.grip(hand, -1, first.jars.get(jar)) >= first.jars.get(jar).hold()) {
                many++;
            }
        }
        return many;
    }

    int factory(int jar, int least, int share) {
        int most = NONE;
        if (isJar(jar) && least >= 0 && share >= 0 && share <= 100) {
            for (int vacuum = least; vacuum <= 99; vacuum++) {
                if (openers(jar, vacuum) * 100 >= toldHands.size() * share) {
                    most = vacuum;
                }
            }
        }
        return most;
    }

    int tried(int grip, boolean opens) {
        if (grip < 0 || grip > 999 || grips.size() == 20 || opened) {
            return NONE;
        }
        grips.add(grip);
        opened = opens;
        return grips.size();
    }

    boolean forgive() {
        boolean any = !grips.isEmpty();
        grips.clear();
        opened = false;
        return any;
    }

    /** Pairs of a hold at first and the hold now. */
    private List<int[]> holds() {
        List<int[]> holds = new ArrayList<>();
        for (int hold = 0; hold <= 300; hold++) {
            int now = hold;
            boolean fits = true;
            for (int i = 0; i < grips.size(); i++) {
                boolean opens = i == grips.size() - 1 && opened;
                fits &= opens == grips.get(i) >= now;
                now = opens ? now : Math.max(0, now - grips.get(i) / 10);
            }
            if (fits) {
                holds.add(new int[] {hold, now});
            }
        }
        return holds;
    }

    int tight(int what) {
        List<int[]> holds = holds();
        if (what < 0 || what > 2) {
            return HIDDEN;
        }
        return what == 0 ? holds.size() : holds.isEmpty() ? NONE : holds.get(what == 1 ? 0 : holds.size() - 1)[0];
    }

    int next(int grip) {
        return grip < 0 || grip > 999 ? NONE : (int) holds().stream().filter(hold -> grip >= hold[1]).count();
    }

    int who(int stuck, int d) {
        if (world == null || stuck < 0 || stuck > 99 || d < 0 || d > 99) {
            return NONE;
        }
        int bits = 0;
        for (int hand = 0; hand < toldHands.size(); hand++) {
            int half = toldHands.get(hand)[0] / 2;
            bits |= half >= stuck - d && half <= stuck + d ? 1 << hand : 0;
        }
        return bits;
    }

    int lefties() {
        if (world == null) {
            return NONE;
        }
        int bits = 0;
        for (int jar = 0; jar < toldJars.size(); jar++) {
            bits |= toldJars.get(jar)[3] == 1 ? 1 << jar : 0;
        }
        return bits;
    }

    private long x;

    private int draw(int m) {
        x = x * 6364136223846793005L + 1442695040888963407L;
        return (int) Long.remainderUnsigned(x >>> 33, m);
    }

    int evening(int n, long seed) {
        if (n < 1 || n > 40 || !closed()) {
            return NONE;
        }
        x = seed;
        int made = 0;
        while (made < n && closed()) {
            int hand = draw(toldHands.size());
            int tool = draw(tools.size() + 1);
            tool = tool == tools.size() ? -1 : tool;
            int slip = draw(toldHands.get(hand)[4] + 1);
            before();
            world.tryLid(hand, Math.max(0, grip(hand, tool, world.table) - slip), true);
            after(tryCode(hand, tool));
            made++;
        }
        return made;
    }

    int perform(int plan) {
        if (plan < 0 || plan >= plans.size() || !closed()) {
            return NONE;
        }
        int done = 0;
        for (int step : plans.get(plan)) {
            if (closed() && world.copy().does(step)) {
                before();
                world.does(step);
                after(step);
                done++;
            }
        }
        return done;
    }

    int log(int i, int what) {
        return i < 0 || i >= notes.size() || what < 0 || what > 1 ? NONE : notes.get(notes.size() - 1 - i)[what];
    }

    int image() {
        if (world == null) {
            return NONE;
        }
        image = world.copy();
        return world.minute;
    }

    int back() {
        if (image == null) {
            return NONE;
        }
        world = image.copy();
        past.clear();
        return world.minute;
    }

    int count(int what) {
        return switch (what) {
            case 0 -> toldJars.size();
            case 1 -> toldHands.size();
            case 2 -> tools.size();
            case 3 -> laws.size();
            case 4 -> plans.size();
            case 5 -> tape.length();
            case 6 -> world == null ? NONE : world.table;
            case 7 -> world == null ? 0 : world.minute;
            case 8 -> law;
            case 9 -> grips.size();
            case 10 -> past.size();
            case 11 -> notes.size();
            default -> HIDDEN;
        };
    }
}
