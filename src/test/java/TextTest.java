/** Promises 1 to 5 and 10: a new object, feed, end, fault, text, step. */
public final class TextTest {
    public static void main(String[] args) {
        newObject();
        feeding();
        ending();
        kitchenFaults();
        lawFaults();
        planFaults();
        texts();
        Check.end();
    }

    private static void newObject() {
        TightLid lid = new TightLid();
        int[] want = {0, 0, 0, 0, 0, 0, -1, 0, -1, 0, 0, 0};
        for (int what = 0; what < want.length; what++) {
            Check.due("new: count(" + what + ")", lid.count(what), want[what]);
        }
        Check.due("new: fault(0)", lid.fault(0), 0);
        Check.due("new: fault(1)", lid.fault(1), 0);
        Check.due("new: fault(2)", lid.fault(2), 0);
        Check.due("new: jar", Check.jar(lid, 0, 0), Check.THROWN);
        Check.due("new: hand", lid.hand(0, 0), -1);
        Check.due("new: grip", lid.grip(0, -1, 0), -1);
        Check.due("new: back", lid.back(), -1);
    }

    private static void feeding() {
        TightLid lid = new TightLid();
        Check.due("feed of zeros", lid.feed(0, 0, 0, 0, 0), 0);
        Check.due("feed with holes", lid.feed(0x6A003B00, 0, 0x00000068, 0, 0), 3);
        Check.due("bytes of 0 are left out", lid.fault(0), -1);
        Check.due("feed of high bytes", lid.feed(-1, 0, 0, 0, 0), 7);
        Check.due("a high byte is a fault", lid.fault(0), 3);
        lid.end(0);
        for (int i = 1; i <= 10; i++) {
            Check.due("feed " + i, lid.feed(0x20202020, 0x20202020, 0x20202020, 0x20202020, 0x20202020), 20 * i);
        }
        Check.due("feed of none at 200", lid.feed(0, 0, 0, 0, 0), 200);
        Check.due("feed of one more", lid.feed(0, 0, 0, 0, 1), -1);
        Check.due("refused feed", lid.count(5), 200);
        lid.end(190);
        Check.due("feed of 11 at 190", lid.feed(-1, -1, 0x01010100, 0, 0), -1);
        Check.due("feed of 10 at 190", lid.feed(-1, -1, 0x00010001, 0, 0), 200);
    }

    private static void ending() {
        TightLid lid = new TightLid();
        Check.feed(lid, "j;hp12");
        Check.due("end(-1)", lid.end(-1), false);
        Check.due("end(7)", lid.end(7), false);
        Check.due("count behind refused", lid.count(5), 6);
        Check.due("end(6)", lid.end(6), true);
        Check.due("end(5)", lid.end(5), true);
        Check.due("count", lid.count(5), 5);
        Check.due("end(6) then", lid.end(6), false);
        Check.due("text", lid.text(0), 1);
        Check.due("power", lid.hand(0, 0), 1);
    }

    private static void kitchen(String text, int want) {
        Check.due("kitchen \"" + text + "\"", Check.fault(0, text), want);
    }

    private static void kitchenFaults() {
        kitchen("", 0);
        kitchen("   ", 3);
        kitchen("j;h", -1);
        kitchen("h;j", -1);
        kitchen("t;h;t;j;t;t", -1);
        kitchen(" j v 20 s 10 c 0 l 0 w 5 g 40 ; h p 30 s 5 w 0 t 2 e 0 ; t a 10 c 5 ", -1);
        kitchen("jv99s99c9l1w9g99;hp99s9w9t9e9;ta99c99", -1);
        kitchen("jg1w1l0c0s0v0;he0t0w0s1p0;tc0a0", -1);
        kitchen("jv00s09c09l01w01g01;hs09", -1);
        kitchen("j", 1);
        kitchen("t", 1);
        kitchen("t;j ", 4);
        kitchen("j;", 2);
        kitchen(";j;h", 0);
        kitchen("j;;h", 2);
        kitchen("j,h", 1);
        kitchen("J;h", 0);
        kitchen("j5;h", 1);
        kitchen("jv;h", 2);
        kitchen("jv", 2);
        kitchen("jv 1 2;h", 5);
        kitchen("jv12 3;h", 5);
        kitchen("jv123;h", 4);
        kitchen("jc123;h", 4);
        kitchen("jw000;h", 4);
        kitchen("jc10;h", 3);
        kitchen("jc10", 3);
        kitchen("jl2;h", 2);
        kitchen("jl02;h", 3);
        kitchen("jw0;h", 2);
        kitchen("jw0", 2);
        kitchen("jw00;h", 3);
        kitchen("jw10;h", 3);
        kitchen("jg0;h", 2);
        kitchen("jg00;h", 3);
        kitchen("j;hs0", 4);
        kitchen("j;hs10", 5);
        kitchen("j;hw10", 5);
        kitchen("j;ht10", 5);
        kitchen("j;he10", 5);
        kitchen("j;hp100", 6);
        kitchen("j;h;ta100", 8);
        kitchen("jp1;h", 1);
        kitchen("j;hv1", 3);
        kitchen("j;h;ts1", 5);
        kitchen("jv1s2v3;h", 5);
        kitchen("j;hw1w1", 5);
        kitchen("j;h;ta1c1a1", 9);
        kitchen("j;j;j;j;h", -1);
        kitchen("j;j;j;j;j", 8);
        kitchen("j;j;j;j;h;h;h;h;h;h;t;t;t;t", -1);
        kitchen("j;j;j;j;h;h;h;h;h;h;t;t;t;t;j", 28);
        kitchen("j;j;j;j;h;h;h;h;h;h;t;t;t;t;", 28);
        kitchen("j;h;h;h;h;h;h", -1);
        kitchen("j;h;h;h;h;h;h;h", 14);
        kitchen("j;h;t;t;t;t", -1);
        kitchen("j;h;t;t;t;t; t", 13);
        kitchen("j;h j", 4);
        kitchen("j;h\t", 3);
        kitchen("j;h" + (char) 128, 3);
    }

    private static void law(String text, int want) {
        Check.due("law \"" + text + "\"", Check.fault(1, text), want);
    }

    private static void lawFaults() {
        law("", 0);
        law(" ", 1);
        law("y", 1);
        law("y:", 2);
        law("x:p", 0);
        law("yp", 1);
        law("y:p", -1);
        law(" y : p + s - w * i / c + a ; y : 9999 ", -1);
        law("y:p;", 4);
        law("y:p;y:s", -1);
        law("y:p;p", 4);
        law("y:z", 2);
        law("y:P", 2);
        law("y:12345", 6);
        law("y:1234", -1);
        law("y:0000", -1);
        law("y:00000", 6);
        law("y:1 2", 4);
        law("y:pp", 3);
        law("y:p5", 3);
        law("y:-5", 2);
        law("y:p+", 4);
        law("y:p+-1", 4);
        law("y:p>1", 5);
        law("y:p>1;y:2", 5);
        law("y:p>1?", 6);
        law("y:p>1?2", -1);
        law("y:p>1?2>1", 7);
        law("y:p>1?2?3", 7);
        law("y:p>1>2?3", 5);
        law("y:p?1", 3);
        law("y:p&s>1?1", 3);
        law("y:p>1&s<2|w=0?p", -1);
        law("y:p>1&?p", 6);
        law("y:p>1|?p", 6);
        law("y:p>1&(s<2|w=0)?p", -1);
        law("y:(p>1)?p", -1);
        law("y:(p>1)+1", 7);
        law("y:(p)?1", 4);
        law("y:(p>1?1", 6);
        law("y:(p>1", 6);
        law("y:p>1)?1", 5);
        law("y:!p>1?p", -1);
        law("y:!p", 4);
        law("y:!(p=1)?2;y:3", -1);
        law("y:p>1&!s<2?3", -1);
        law("y:p>!1?3", 4);
        law("y:[p+1]*2", -1);
        law("y:[p+1>2", 6);
        law("y:[p", 4);
        law("y:[p>1]?1", 4);
        law("y:[p)", 4);
        law("y:[]", 3);
        law("y:()?1", 3);
        law("y:[p]>[s]?[w]", -1);
        law("y:[[[[[[p]]]]]]", -1);
        law("y:[[[[[[[p]]]]]]]", 8);
        law("y:((((((p=1))))))?1", -1);
        law("y:(((((((p=1)))))))?1", 8);
        law("y:!!!!!!p=1?1", -1);
        law("y:!!!!!!!p=1?1", 8);
        law("y:!!!!!!p=[1]?1", 10);
        law("y:!!!([[p]]=1)?1", -1);
        law("y:!!!([[[p]]]=1)?1", 8);
        law("y:!(!(!(p=1)))?1", -1);
        law("y:!(!(!(!p=1)))?1", 8);
        law("y:!p=1&!!!!!!s=1?1", -1);
        law("y:[[[p]]]+[[[[[[s]]]]]]", -1);
        law("y:1?2", 3);
    }

    private static void plan(String text, int want) {
        Check.due("plan \"" + text + "\"", Check.fault(2, text), want);
    }

    private static void planFaults() {
        plan("", 0);
        plan("  ", 2);
        plan("t", -1);
        plan("t;k;o;h;w;d0;y00", -1);
        plan(" t ; d 9 ; y 9 9 ", -1);
        plan("d", 1);
        plan("dx", 1);
        plan("d12", 2);
        plan("y1", 2);
        plan("y1;t", 2);
        plan("y123", 3);
        plan("t;", 2);
        plan("tt", 1);
        plan("t1", 1);
        plan("x", 0);
        plan("T", 0);
        plan("t;;t", 2);
        plan("t;t;t;t;t;t;t;t;t;t;t;t;t;t;t;t", -1);
        plan("t;t;t;t;t;t;t;t;t;t;t;t;t;t;t;t;", 31);
        plan("t;t;t;t;t;t;t;t;t;t;t;t;t;t;t;t ;t", 32);
        TightLid lid = new TightLid();
        Check.due("fault(-1)", lid.fault(-1), -2);
        Check.due("fault(3)", lid.fault(3), -2);
    }

    private static void texts() {
        TightLid lid = new TightLid();
        Check.due("an empty kitchen", lid.text(0), -1);
        Check.due("a wrong kitchen", Check.text(lid, 0, "j;hx"), -1);
        Check.due("the tape stays", lid.count(5), 4);
        Check.due("text(-1)", lid.text(-1), -1);
        Check.due("text(3)", lid.text(3), -1);
        for (int i = 0; i < 4; i++) {
            Check.due("law " + i, Check.text(lid, 1, "y:" + i), i);
            Check.due("plan " + i, Check.text(lid, 2, "t;d" + i), i);
            Check.due("the tape is empty", lid.count(5), 0);
        }
        Check.due("a fifth law", Check.text(lid, 1, "y:1"), -1);
        Check.due("its tape stays", lid.count(5), 3);
        Check.due("a fifth plan", Check.text(lid, 2, "t"), -1);
        Check.due("laws", lid.count(3), 4);
        Check.due("plans", lid.count(4), 4);
        Check.due("a kitchen", Check.text(lid, 0, "j;j;j;h"), 3);
        Check.due("laws stay", lid.count(3), 4);
        Check.due("step(3, 0)", lid.step(3, 0), 0);
        Check.due("step(3, 1)", lid.step(3, 1), 13);
        Check.due("step(3, 2)", lid.step(3, 2), -1);
        Check.due("step(3, -1)", lid.step(3, -1), -1);
        Check.due("step(4, 0)", lid.step(4, 0), -1);
        Check.due("step(-1, 0)", lid.step(-1, 0), -1);
        steps();
        anotherKitchen();
        triedGone();
    }

    private static void steps() {
        TightLid lid = new TightLid();
        Check.text(lid, 2, "t;k;o;h;w;d0;d9;y00;y 9 9;y59");
        int[] want = {0, 1, 2, 3, 4, 10, 19, 100, 199, 159};
        for (int i = 0; i < want.length; i++) {
            Check.due("step " + i, lid.step(0, i), want[i]);
        }
    }

    private static void anotherKitchen() {
        TightLid lid = Check.kitchen("jv30;jv40;h;h");
        Check.text(lid, 1, "y:p*2");
        Check.text(lid, 2, "t;k");
        lid.law(0);
        lid.table(1);
        lid.turn(0, -1, 0);
        lid.image();
        lid.pause(7);
        lid.tried(40, true);
        Check.due("a refused kitchen", Check.text(lid, 0, "j"), -1);
        Check.due("changes nothing", lid.count(7), 8);
        Check.due("TRIED neither", lid.tight(0), 41);
        Check.due("another kitchen", Check.text(lid, 0, "j;h;t"), 1);
        int[] want = {1, 1, 1, 1, 1, 0, 0, 0, -1, 0, 0, 0};
        for (int what = 0; what < want.length; what++) {
            Check.due("another kitchen: count(" + what + ")", lid.count(what), want[what]);
        }
        Check.due("its vacuum", Check.jar(lid, 0, 0), 20);
        Check.due("its loosened", lid.hand(0, 6), 0);
        Check.due("no image of it", lid.back(), -1);
        Check.due("no act of it", lid.undo(), -1);
        Check.due("no log of it", lid.log(0, 0), -1);
        Check.due("grip by the plain rule", lid.grip(0, -1, 0), 30);
    }

    /** Laws and plans alone outlast a kitchen, the first one too. */
    private static void triedGone() {
        TightLid lid = new TightLid();
        lid.tried(0, false);
        Check.text(lid, 1, "y:1");
        Check.text(lid, 2, "t");
        Check.due("a law, a plan leave TRIED", lid.tight(0), 300);
        Check.due("the first kitchen", Check.text(lid, 0, "j;h"), 1);
        Check.due("tight(0) of none", lid.tight(0), 301);
        Check.due("tight(1) of none", lid.tight(1), 0);
        Check.due("nothing to forgive", lid.forgive(), false);
        Check.due("tried, opened", lid.tried(50, true), 1);
        Check.due("no more behind that", lid.tried(60, false), -1);
        Check.due("another kitchen", Check.text(lid, 0, "j;j;h"), 2);
        Check.due("next(9) of none", lid.next(9), 10);
        Check.due("tried anew", lid.tried(60, false), 1);
        Check.due("tight(0) anew", lid.tight(0), 240);
    }
}
