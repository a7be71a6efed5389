/** Sentences of part 3 that name edges of TIGHT, NEXT, WHO and LEFTIES. */
final class EdgeGuesses {
    private EdgeGuesses() {
    }

    static void all() {
        twenty();
        holds();
        holdsBehindTries();
        next();
        who();
        lefties();
    }

    private static void tight(TightLid lid, String what, int many, int least, int greatest) {
        Edge.looks(lid, what + ": how many", () -> lid.tight(0), many);
        Edge.looks(lid, what + ": the least", () -> lid.tight(1), least);
        Edge.looks(lid, what + ": the greatest", () -> lid.tight(2), greatest);
    }

    private static void twenty() {
        Edge.says("TIGHT (20 TRIED at most): on some jar TRIES one behind the other, each of a GRIP (0 .. 999),"
                + " opened it or not");
        TightLid lid = new TightLid();
        for (int i = 1; i <= 20; i++) {
            Edge.due("tried " + i, lid.tried(i == 20 ? 10 : 0, false), i);
        }
        Edge.looks(lid, "a 21st", () -> lid.tried(0, false), -1);
        Edge.looks(lid, "a 21st that opens", () -> lid.tried(999, true), -1);
        tight(lid, "the 20th counts", 290, 11, 300);
        TightLid last = new TightLid();
        for (int i = 1; i <= 19; i++) {
            last.tried(0, false);
        }
        Edge.due("the 20th opens it", last.tried(7, true), 20);
        tight(last, "above 0, 7 at most", 7, 1, 7);
        TightLid far = new TightLid();
        Edge.looks(far, "tried(-1)", () -> far.tried(-1, false), -1);
        Edge.looks(far, "tried(1000)", () -> far.tried(1000, true), -1);
        Edge.due("tried(0)", far.tried(0, false), 1);
        Edge.due("tried(999)", far.tried(999, true), 2);
        tight(far, "above 0", 300, 1, 300);
    }

    private static void holds() {
        Edge.says("HOLDS (0 .. 300 at first) by which all was so");
        TightLid lid = new TightLid();
        tight(lid, "nothing was tried", 301, 0, 300);
        lid.tried(0, true);
        tight(lid, "0 opened it", 1, 0, 0);
        lid.forgive();
        lid.tried(0, false);
        tight(lid, "0 did not", 300, 1, 300);
        lid.forgive();
        lid.tried(300, true);
        tight(lid, "300 opened it", 301, 0, 300);
        lid.forgive();
        lid.tried(299, true);
        tight(lid, "299 opened it", 300, 0, 299);
        lid.forgive();
        lid.tried(299, false);
        tight(lid, "299 did not", 1, 300, 300);
        lid.forgive();
        lid.tried(300, false);
        tight(lid, "300 did not", 0, -1, -1);
        lid.forgive();
        lid.tried(999, false);
        tight(lid, "999 did not", 0, -1, -1);
    }

    private static void holdsBehindTries() {
        Edge.says("(one that does not open it makes HOLD less by GRIP by 10, cut, 0 at least;"
                + " one that opens it lets HOLD be as it is): how many, the least, the greatest.");
        TightLid lid = new TightLid();
        lid.tried(9, false);
        lid.tried(9, true);
        tight(lid, "9 loosens none", 0, -1, -1);
        lid.forgive();
        lid.tried(10, false);
        lid.tried(10, true);
        tight(lid, "10 loosens 1: 11 alone", 1, 11, 11);
        lid.forgive();
        lid.tried(19, false);
        lid.tried(19, true);
        tight(lid, "19 loosens 1: 20 alone", 1, 20, 20);
        lid.forgive();
        lid.tried(290, false);
        lid.tried(262, false);
        tight(lid, "291 on, less 29 above 262: 292 on", 9, 292, 300);
        lid.tried(240, true);
        tight(lid, "less 55 at most 240: 295 at most", 4, 292, 295);
        Edge.due("it is as it is: of 237 .. 240", lid.next(238), 2);
        lid.forgive();
        lid.tried(0, false);
        for (int i = 0; i < 5; i++) {
            lid.tried(0, false);
        }
        tight(lid, "of 0 never", 300, 1, 300);
    }

    private static void next() {
        Edge.says("NEXT: by how many of these a TRY of a GRIP now would open it.");
        TightLid lid = new TightLid();
        Edge.looks(lid, "next(0)", () -> lid.next(0), 1);
        Edge.looks(lid, "next(1)", () -> lid.next(1), 2);
        Edge.looks(lid, "next(299)", () -> lid.next(299), 300);
        Edge.looks(lid, "next(300)", () -> lid.next(300), 301);
        Edge.looks(lid, "next(999)", () -> lid.next(999), 301);
        lid.tried(50, false);
        Edge.looks(lid, "51 .. 300 are 46 .. 295 now: next(45)", () -> lid.next(45), 0);
        Edge.looks(lid, "next(46)", () -> lid.next(46), 1);
        Edge.looks(lid, "next(294)", () -> lid.next(294), 249);
        Edge.looks(lid, "next(295)", () -> lid.next(295), 250);
        lid.tried(999, false);
        Edge.looks(lid, "of none", () -> lid.next(999), 0);
    }

    private static void who() {
        Edge.says("WHO shut one that is STUCK so much, give or take d: HANDS (bits; POWER as told) whose half (cut)"
                + " is no farther from that.");
        TightLid lid = Check.kitchen("j;hp40;hp41;hp42;hp99;hp0;hp1");
        int[][] rows = {{20, 0, 3}, {21, 0, 4}, {20, 1, 7}, {19, 1, 3}, {19, 2, 7}, {22, 1, 4}, {22, 2, 7}, {49, 0, 8},
            {50, 0, 0}, {50, 1, 8}, {0, 0, 48}, {1, 0, 0}, {1, 1, 48}, {99, 99, 63}, {99, 98, 15}, {99, 50, 8},
            {99, 49, 0}, {0, 99, 63}};
        for (int[] row : rows) {
            Edge.looks(lid, "who(" + row[0] + ", " + row[1] + ")", () -> lid.who(row[0], row[1]), row[2]);
        }
        lid.turn(0, -1, 1);
        Edge.due("by power as told", lid.who(20, 0), 3);
    }

    private static void lefties() {
        Edge.says("LEFTIES: JARS (bits) whose thread goes LEFT.");
        Edge.due("none", Check.kitchen("j;j;j;j;h").lefties(), 0);
        Edge.due("all", Check.kitchen("jl1;jl1;jl1;jl1;h").lefties(), 15);
        Edge.due("the first", Check.kitchen("jl1;h").lefties(), 1);
        Edge.due("the last", Check.kitchen("j;jl0;j;jl1;h").lefties(), 8);
    }
}
