/** Promises 33 to 36 and 39 to 44: tried, forgive, tight, next, evening, perform, log, image, back, count. */
public final class EveningTest {
    public static void main(String[] args) {
        trying();
        evenings();
        eveningsBySlip();
        performing();
        logs();
        longLogs();
        images();
        counts();
        Check.end();
    }

    private static void tight(TightLid lid, int many, int least, int greatest) {
        Check.due("tight(0)", lid.tight(0), many);
        Check.due("tight(1)", lid.tight(1), least);
        Check.due("tight(2)", lid.tight(2), greatest);
    }

    private static void trying() {
        TightLid lid = new TightLid();
        tight(lid, 301, 0, 300);
        Check.due("tight(3)", lid.tight(3), Check.HIDDEN);
        Check.due("tight(-1)", lid.tight(-1), Check.HIDDEN);
        Check.due("forgive of none", lid.forgive(), false);
        Check.due("next(999)", lid.next(999), 301);
        Check.due("next(1000)", lid.next(1000), -1);
        Check.due("next(-1)", lid.next(-1), -1);
        Check.due("tried(-1)", lid.tried(-1, false), -1);
        Check.due("tried(1000)", lid.tried(1000, false), -1);
        Check.due("tried(40)", lid.tried(40, false), 1);
        tight(lid, 260, 41, 300);
        Check.due("tried(39)", lid.tried(39, false), 2);
        tight(lid, 257, 44, 300);
        Check.due("next(50), of 37 at least now", lid.next(50), 14);
        Check.due("tried(50, open)", lid.tried(50, true), 3);
        tight(lid, 14, 44, 57);
        Check.due("next(40)", lid.next(40), 4);
        Check.due("it was opened", lid.tried(1, true), -1);
        Check.due("there are 3", lid.count(9), 3);
        Check.due("forgive", lid.forgive(), true);
        Check.due("there are none", lid.count(9), 0);
        Check.due("tried again", lid.tried(999, false), 1);
        tight(lid, 0, -1, -1);
        Check.due("next of none", lid.next(999), 0);
        lid.forgive();
        for (int i = 1; i <= 20; i++) {
            Check.due("tried " + i, lid.tried(0, false), i);
        }
        Check.due("a 21st", lid.tried(5, true), -1);
        tight(lid, 300, 1, 300);
        lid.forgive();
        Check.due("opened by 0", lid.tried(0, true), 1);
        tight(lid, 1, 0, 0);
        lid.forgive();
        lid.tried(299, false);
        tight(lid, 1, 300, 300);
        Check.due("next(270), of 271 now", lid.next(270), 0);
        Check.due("next(271)", lid.next(271), 1);
    }

    private static void evenings() {
        TightLid lid = Check.kitchen("jv99s60;hp40t3;hp20t5;hp60t1;ta9;ta30");
        TightLid other = Check.kitchen("jv99s60;hp40t3;hp20t5;hp60t1;ta9;ta30");
        long seed = -8765432101234567L;
        Check.due("evening", lid.evening(6, seed), 6);
        long x = seed;
        for (int i = 0; i < 6; i++) {
            x = x * 6364136223846793005L + 1442695040888963407L;
            int hand = (int) ((x >>> 33) % 3);
            x = x * 6364136223846793005L + 1442695040888963407L;
            int tool = (int) ((x >>> 33) % 3);
            x = x * 6364136223846793005L + 1442695040888963407L;
            other.turn(hand, tool == 2 ? -1 : tool, 0);
        }
        Check.same("as by hand", Check.all(lid), Check.all(other));
        Check.due("acts", lid.count(10), 6);
        Check.due("undo one", lid.undo(), 5);
        Check.due("minute", lid.count(7), 5);
        Check.due("evening(0)", lid.evening(0, 1L), -1);
        Check.due("evening(41)", lid.evening(41, 1L), -1);
        TightLid easy = Check.kitchen("jv1s1l1;hp30");
        Check.due("till it is open", easy.evening(40, 5L), 1);
        Check.due("it is", Check.jar(easy, 0, 8), 1);
        Check.due("open", easy.evening(1, 5L), -1);
        Check.due("no kitchen", new TightLid().evening(1, 1L), -1);
        TightLid most = Check.kitchen("jv99s99;hp1");
        Check.due("forty", most.evening(40, 0L), 40);
        Check.due("can all be undone", most.count(10), 40);
    }

    /** A hand of slip 9 draws what its grip is less. */
    private static void eveningsBySlip() {
        for (long seed = 0; seed < 60; seed++) {
            TightLid lid = Check.kitchen("jv20s5;hp28e9");
            long x = seed;
            for (int i = 0; i < 3; i++) {
                x = x * 6364136223846793005L + 1442695040888963407L;
            }
            int slip = (int) ((x >>> 33) % 10);
            lid.evening(1, seed);
            Check.due("open by a slip of " + slip, Check.jar(lid, 0, 8), 28 - slip >= 25 ? 1 : 0);
            Check.due("stuck", Check.jar(lid, 0, 1), slip <= 3 ? 5 : 5 - (28 - slip) / 10);
        }
        TightLid weak = Check.kitchen("jv0s1;hp0e9");
        weak.evening(3, 3L);
        Check.due("grip 0 at least", Check.jar(weak, 0, 1), 1);
    }

    private static void performing() {
        TightLid lid = Check.kitchen("jv30s20g35c1;hp40w2t3;hp10;ta5");
        Check.text(lid, 2, "t;k;d0;y91;y01;d8;h;w;y10;o;y00;t");
        Check.text(lid, 2, "h;h;h;h;t");
        Check.due("perform(2)", lid.perform(2), -1);
        Check.due("perform(-1)", lid.perform(-1), -1);
        Check.due("done", lid.perform(0), 8);
        int[] codes = {100, 2, 110, 4, 3, 10, 1, 0};
        int[] minutes = {17, 16, 15, 14, 4, 3, 2, 1};
        for (int i = 0; i < codes.length; i++) {
            Check.due("log(" + i + ", 0)", lid.log(i, 0), codes[i]);
            Check.due("log(" + i + ", 1)", lid.log(i, 1), minutes[i]);
        }
        Check.due("open", Check.jar(lid, 0, 8), 1);
        Check.due("acts", lid.count(10), 8);
        Check.due("open: perform", lid.perform(1), -1);
        lid.undo();
        Check.due("apart", Check.jar(lid, 0, 6), 0);
        Check.due("till it is cracked", lid.perform(1), 4);
        Check.due("cracked", Check.jar(lid, 0, 9), 1);
        Check.due("cracked: perform", lid.perform(0), -1);
        TightLid none = new TightLid();
        Check.text(none, 2, "t");
        Check.due("no kitchen", none.perform(0), -1);
    }

    private static void logs() {
        TightLid lid = Check.kitchen("jv5s5g90;jl1v90;jg1;h;h;h;t");
        lid.work(0);
        lid.work(1);
        lid.work(2);
        lid.work(3);
        lid.heat(10);
        lid.heat(11);
        lid.pause(10);
        lid.pause(9);
        lid.dry(2);
        lid.turn(1, -1, 1);
        lid.turn(1, -1, 0);
        lid.shut(2);
        lid.table(1);
        lid.turn(2, 0, 0);
        lid.turn(2, 0, 1);
        int[] codes = {120, 1120, 31, 22, 119, 1119, 12, 6, 4, 5, 3, 7, 2, 1, 0};
        int[] minutes = {31, 30, 29, 29, 28, 27, 26, 25, 16, 6, 5, 4, 3, 2, 1};
        Check.due("how long", lid.count(11), codes.length);
        for (int i = 0; i < codes.length; i++) {
            Check.due("log(" + i + ", 0)", lid.log(i, 0), codes[i]);
            Check.due("log(" + i + ", 1)", lid.log(i, 1), minutes[i]);
        }
        Check.due("log(15, 0)", lid.log(15, 0), -1);
        Check.due("log(-1, 0)", lid.log(-1, 0), -1);
        Check.due("log(0, 2)", lid.log(0, 2), -1);
        Check.due("log(0, -1)", lid.log(0, -1), -1);
        lid.turn(9, 9, 9);
        lid.table(1);
        Check.due("what is refused is not there", lid.count(11), codes.length);
    }

    private static void longLogs() {
        TightLid lid = Check.kitchen("j;h");
        for (int i = 1; i <= 65; i++) {
            lid.pause(i % 60 + 1);
            Check.due("60 at most", lid.count(11), Math.min(60, i));
        }
        lid.dry(0);
        Check.due("the latest", lid.log(0, 0), 10);
        Check.due("the 60th", lid.log(59, 0), 6);
        Check.due("a 61st", lid.log(60, 0), -1);
        lid.undo();
        Check.due("taken off", lid.count(11), 59);
        Check.due("the latest then", lid.log(0, 0), 6);
        Check.due("and its minute", lid.log(0, 1), lid.count(7));
    }

    private static void images() {
        TightLid lid = Check.kitchen("jv40s40;jl1;hp50w3;h;t");
        Check.due("no image", lid.back(), -1);
        lid.turn(0, 0, 0);
        lid.pause(3);
        Check.due("image", lid.image(), 4);
        Check.due("an image is no act", lid.count(10), 2);
        String seen = Check.scene(lid);
        lid.turn(1, -1, 0);
        lid.table(1);
        lid.heat(8);
        lid.dry(0);
        lid.work(2);
        Check.due("back", lid.back(), 4);
        Check.same("as it was", Check.scene(lid), seen);
        Check.due("no act can be undone", lid.undo(), -1);
        Check.due("the log stays", lid.count(11), 7);
        Check.due("its latest", lid.log(0, 0), 2);
        lid.work(0);
        Check.due("its next", lid.log(0, 1), 5);
        Check.due("undo that", lid.undo(), 0);
        Check.due("the log is as before", lid.count(11), 7);
        lid.pause(2);
        Check.due("back again", lid.back(), 4);
        lid.pause(2);
        Check.due("instead", lid.image(), 6);
        lid.pause(9);
        Check.due("back to it", lid.back(), 6);
        Check.text(lid, 1, "y:1");
        lid.law(0);
        lid.back();
        Check.due("a law holds on", lid.count(8), 0);
        Check.due("no kitchen: image", new TightLid().image(), -1);
    }

    private static void counts() {
        TightLid lid = Check.kitchen("j;j;h;h;h;t");
        Check.text(lid, 1, "y:1");
        Check.text(lid, 1, "y:2");
        Check.text(lid, 2, "t");
        lid.law(1);
        lid.table(1);
        lid.pause(5);
        lid.tried(4, false);
        Check.feed(lid, "abc");
        int[] want = {2, 3, 1, 2, 1, 3, 1, 5, 1, 1, 2, 2};
        for (int what = 0; what < want.length; what++) {
            Check.due("count(" + what + ")", lid.count(what), want[what]);
        }
        Check.due("count(12)", lid.count(12), Check.HIDDEN);
        Check.due("count(-1)", lid.count(-1), Check.HIDDEN);
    }
}
