import java.util.Random;

/** All promises: runs of drawn calls, each answer held against the model's; and drawn texts' faults. */
public final class ModelTest {
    private static final int RUNS = 700;
    private static final int CALLS = 400;
    private static final int TEXTS = 30000;

    private final Random random;
    private final TightLid lid = new TightLid();
    private final Model model = new Model();
    private final int run;
    private int soonestLeft = 3;

    private ModelTest(int run) {
        this.run = run;
        random = new Random(run);
    }

    public static void main(String[] args) {
        Random random = new Random(4711);
        for (int i = 0; i < TEXTS; i++) {
            faults(random);
        }
        for (int run = 0; run < RUNS; run++) {
            new ModelTest(run).play();
        }
        Check.end();
    }

    private static void faults(Random random) {
        int sort = random.nextInt(3);
        String text = TextMaker.text(random, sort);
        if (random.nextInt(4) > 0) {
            text = TextMaker.spoilt(random, text);
        }
        TightLid lid = new TightLid();
        Model model = new Model();
        for (int i = 0; i < text.length(); i += 4) {
            int word = Check.word(text, i);
            lid.feed(word, 0, 0, 0, 0);
            model.feed(word);
        }
        for (int other = 0; other < 3; other++) {
            Check.due("fault(" + other + ") of \"" + text + "\"", lid.fault(other), model.fault(other));
        }
    }

    private void same(String call, long got, long want) {
        Check.due("run " + run + ": " + call, got, want);
    }

    private void same(String call, boolean got, boolean want) {
        same(call, got ? 1 : 0, want ? 1 : 0);
    }

    private void play() {
        if (random.nextInt(20) > 0) {
            tell(0);
        }
        for (int i = random.nextInt(5); i > 0; i--) {
            tell(1);
            tell(2);
        }
        for (int i = 0; i < CALLS; i++) {
            int kind = random.nextInt(100);
            if (kind < 3) {
                tape();
            } else if (kind < 40) {
                act();
            } else if (kind < 65) {
                look();
            } else {
                ask();
            }
        }
    }

    private void tell(int sort) {
        same("end", lid.end(0), model.end(0));
        String text = TextMaker.text(random, sort);
        for (int i = 0; i < text.length(); i += 8) {
            int a = Check.word(text, i);
            int b = Check.word(text, i + 4);
            same("feed", lid.feed(0, a, 0, b, 0), model.feed(a, b));
        }
        same("fault(" + sort + ") of " + text, lid.fault(sort), model.fault(sort));
        same("text(" + sort + ") of " + text, lid.text(sort), model.text(sort));
    }

    private void tape() {
        int n = random.nextInt(30) - 2;
        switch (random.nextInt(6)) {
            case 0 -> tell(random.nextInt(8) == 0 ? 0 : 1 + random.nextInt(2));
            case 1 -> same("end", lid.end(n), model.end(n));
            case 2 -> {
                int word = random.nextInt();
                same("feed", lid.feed(word, 0, 1, word, word), model.feed(word, 0, 1, word, word));
            }
            case 3 -> same("text", lid.text(n), model.text(n));
            default -> same("fault", lid.fault(n % 4), model.fault(n % 4));
        }
    }

    private int hand() {
        return random.nextInt(10) == 0 ? random.nextInt(12) - 3 : random.nextInt(Math.max(1, model.count(1)));
    }

    private int tool() {
        return random.nextInt(10) == 0 ? random.nextInt(12) - 3 : random.nextInt(model.count(2) + 1) - 1;
    }

    private int jar() {
        return random.nextInt(10) == 0 ? random.nextInt(12) - 3 : random.nextInt(Math.max(1, model.count(0)));
    }

    private int plan() {
        return random.nextInt(6) - 1;
    }

    private void act() {
        int hand = hand();
        int tool = tool();
        int n = random.nextInt(5) == 0 ? 10 : random.nextInt(64) - 1;
        int what = random.nextInt(6) - 1;
        switch (random.nextInt(16)) {
            case 0, 1, 2 -> {
                int side = random.nextInt(10) == 0 ? what : random.nextInt(2);
                same("turn", lid.turn(hand, tool, side), model.turn(hand, tool, side));
            }
            case 3 -> {
                n = random.nextBoolean() ? n / 6 : n;
                same("heat", lid.heat(n), model.heat(n));
            }
            case 4, 5 -> same("work", lid.work(what), model.work(what));
            case 6 -> same("dry", lid.dry(hand), model.dry(hand));
            case 7 -> same("pause", lid.pause(n), model.pause(n));
            case 8, 9 -> same("shut", lid.shut(hand), model.shut(hand));
            case 10 -> {
                int jar = jar();
                same("table", lid.table(jar), model.table(jar));
            }
            case 11, 12 -> same("undo", lid.undo(), model.undo());
            case 13 -> {
                int plan = plan();
                same("perform", lid.perform(plan), model.perform(plan));
            }
            case 14 -> {
                long seed = random.nextLong();
                n = random.nextInt(44) - 1;
                same("evening", lid.evening(n, seed), model.evening(n, seed));
            }
            default -> rarer();
        }
    }

    private void rarer() {
        int law = random.nextInt(7) - 2;
        switch (random.nextInt(4)) {
            case 0 -> same("image", lid.image(), model.image());
            case 1 -> same("back", lid.back(), model.back());
            default -> same("law", lid.law(law), model.law(law));
        }
    }

    private void look() {
        for (int what = -1; what <= 12; what++) {
            same("count(" + what + ")", lid.count(what), model.count(what));
        }
        int jar = jar();
        int hand = hand();
        int tool = tool();
        for (int what = -1; what <= 11; what++) {
            same("jar(" + jar + ", " + what + ")", Check.jar(lid, jar, what), model.jar(jar, what));
            same("hand(" + hand + ", " + what + ")", lid.hand(hand, what), model.hand(hand, what));
        }
        for (int what = -1; what <= 2; what++) {
            same("tool", lid.tool(tool, what), model.tool(tool, what));
            int i = random.nextInt(62) - 1;
            same("log(" + i + ")", lid.log(i, what), model.log(i, what));
            same("log(0)", lid.log(0, what), model.log(0, what));
        }
        same("grip", lid.grip(hand, tool, jar), model.grip(hand, tool, jar));
        same("lacks", lid.lacks(hand, tool, jar), model.lacks(hand, tool, jar));
        int plan = plan();
        for (int i = -1; i < 17; i++) {
            same("step", lid.step(plan, i), model.step(plan, i));
        }
    }

    private void ask() {
        int hand = hand();
        int tool = tool();
        int jar = jar();
        int what = random.nextInt(8) == 0 ? random.nextInt(6) - 2 : random.nextInt(3);
        int number = random.nextInt(104) - 2;
        int share = random.nextInt(104) - 2;
        boolean flag = random.nextBoolean();
        switch (random.nextInt(18)) {
            case 0 -> soonest(what, flag);
            case 1 -> same("order", lid.order(what), model.order(what));
            case 2, 3 -> {
                int plan = plan();
                same("run", lid.run(plan, what), model.run(plan, what));
            }
            case 4 -> same("best", lid.best(flag), model.best(flag));
            case 5 -> {
                int set = random.nextInt((1 << model.count(1)) + 3) - 1;
                same("opens", lid.opens(set), model.opens(set));
            }
            case 6 -> same("share", lid.share(hand), model.share(hand));
            case 7 -> same("cheapest", lid.cheapest(hand), model.cheapest(hand));
            case 8 -> same("safe", lid.safe(), model.safe());
            case 9 -> same("enough", lid.enough(hand, tool), model.enough(hand, tool));
            case 10 -> same("saves", lid.saves(tool, what), model.saves(tool, what));
            case 11 -> same("openers", lid.openers(jar, number), model.openers(jar, number));
            case 12 -> same("factory", lid.factory(jar, number / 4, share), model.factory(jar, number / 4, share));
            case 13 -> same("who", lid.who(number / 2, share / 6), model.who(number / 2, share / 6));
            case 14 -> same("lefties", lid.lefties(), model.lefties());
            default -> tight(what, number, flag);
        }
    }

    /** The model's search is dear: it is asked seldom, and the longest one once a run at most. */
    private void soonest(int what, boolean hole) {
        int k = random.nextInt(6) - 1;
        boolean dear = k == 3 && model.closed();
        if (dear && (soonestLeft < 3 || model.count(1) * (model.count(2) + 1) > 12)) {
            k = 2;
        }
        if (model.closed() && soonestLeft-- <= 0) {
            return;
        }
        same("soonest(" + k + ", " + hole + ", " + what + ")", lid.soonest(k, hole, what), model.soonest(k, hole, what));
    }

    private void tight(int what, int number, boolean opened) {
        switch (random.nextInt(8)) {
            case 0 -> same("forgive", lid.forgive(), model.forgive());
            case 1, 2 -> same("next", lid.next(number * 3), model.next(number * 3));
            case 3, 4 -> same("tight", lid.tight(what), model.tight(what));
            default -> {
                boolean opens = opened && random.nextInt(3) == 0;
                same("tried", lid.tried(number, opens), model.tried(number, opens));
            }
        }
    }
}
