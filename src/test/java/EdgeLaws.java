/** Sentences of the terms that name edges of LAWS, and of GRIP by them. */
final class EdgeLaws {
    private EdgeLaws() {
    }

    static void all() {
        howMany();
        atoms();
        conditions();
        within();
        numbers();
        division();
        worth();
        oneAndOther();
    }

    private static void fault(String text, int want) {
        Edge.due("fault(1) of \"" + text + "\"", Check.fault(1, text), want);
        TightLid lid = new TightLid();
        Edge.due("text(1) of \"" + text + "\"", Check.text(lid, 1, text), want == Check.NONE ? 0 : Check.NONE);
    }

    /** By hand 0 (power 40, size 6, wet 2) on jar 0 (wide 8, cold 4), bare. */
    private static void worth(String law, int want) {
        TightLid lid = Check.kitchen("jw8c4;hp40s6w2;ta15");
        Edge.due(law, Check.text(lid, 1, law), 0);
        lid.law(0);
        Edge.due(law, lid.grip(0, -1, 0), want);
    }

    private static void howMany() {
        Edge.says("LAWS (4 at most) are TEXTS: CLAUSES with ; between, one at least");
        TightLid lid = Check.kitchen("j;h");
        for (int i = 0; i < 4; i++) {
            Edge.due("law " + i, Check.text(lid, 1, "y:" + (10 + i)), i);
        }
        Edge.due("a fifth", Check.text(lid, 1, "y:14"), -1);
        Edge.due("four", lid.count(3), 4);
        for (int i = 0; i < 4; i++) {
            Edge.due("law(" + i + ")", lid.law(i), true);
            Edge.due("its grip", lid.grip(0, -1, 0), 10 + i);
        }
        Edge.due("law(4)", lid.law(4), false);
        fault("", 0);
        fault(" ", 1);
        fault(";", 0);
        fault("y:1", -1);
        fault("y:1;", 4);
        fault("y:1;;y:1", 4);
        fault("y:1;y:2", -1);
        String clauses = "y:1" + ";y:2".repeat(49);
        fault(clauses, -1);
        worth("y:p=1?1" + ";y:p=1?1".repeat(23) + ";y:77", 77);
    }

    private static void atoms() {
        Edge.says("ATOM: a number (1 to 4 digits), a letter (p s w i c a), [ SUM ].");
        fault("y:0", -1);
        fault("y:9999", -1);
        fault("y:12345", 6);
        fault("y:+", 2);
        fault("y:-1", 2);
        fault("y:[]", 3);
        fault("y:[1", 4);
        fault("y:[1]", -1);
        fault("y:(1)", 4);
        for (char letter = 'a'; letter <= 'z'; letter++) {
            fault("y:" + letter, "pswica".indexOf(letter) >= 0 ? -1 : 2);
        }
        fault("y:P", 2);
        worth("y:0007", 7);
        worth("y:[[7]]", 7);
    }

    private static void conditions() {
        Edge.says("CONDITION: TRUTHS with | between; TRUTH: UNITS with & between; UNIT: ! UNIT, ( CONDITION ), or SUM,"
                + " one of = < >, SUM.");
        worth("y:p=40?1;y:2", 1);
        worth("y:p=39?1;y:2", 2);
        worth("y:p<41?1;y:2", 1);
        worth("y:p<40?1;y:2", 2);
        worth("y:p>39?1;y:2", 1);
        worth("y:p>40?1;y:2", 2);
        worth("y:p=40|p=1&p=2?1;y:2", 1);
        worth("y:(p=40|p=1)&p=2?1;y:2", 2);
        worth("y:p=1&p=2|p=40?1;y:2", 1);
        worth("y:!p=1&p=2?1;y:2", 2);
        worth("y:!(p=1&p=2)?1;y:2", 1);
        worth("y:p<41&p=40?1;y:2", 1);
        worth("y:p>39&p=40?1;y:2", 1);
        worth("y:!p<41?1;y:2", 2);
        worth("y:!p>39?1;y:2", 2);
        worth("y:!p<40?1;y:2", 1);
        fault("y:p?1", 3);
        fault("y:p=1=1?1", 5);
        fault("y:p=1|?1", 6);
        fault("y:p=1&?1", 6);
        Edge.says("(A CLAUSE that goes on with ! or ( behind its : has a CONDITION.)");
        fault("y:!p", 4);
        fault("y:!p>1", 6);
        fault("y:(p)", 4);
        fault("y:(p)+1", 4);
        fault("y:(p>1)", 7);
        fault("y:(p>1)>1?1", 7);
        fault("y:(p>1)?1", -1);
        fault("y:!p>1?1", -1);
        fault("y:[p]", -1);
        fault("y:[p]>1?1", -1);
    }

    private static void within() {
        Edge.says("At most six of ( [ ! within one another.");
        fault("y:[[[[[[p]]]]]]", -1);
        fault("y:((((((p=1))))))?1", -1);
        fault("y:!!!!!!p=1?1", -1);
        fault("y:!(!(!([p]=1)))?1", 8);
        fault("y:!(!([[p]]=1))?1", -1);
        fault("y:[[[[[[p]]]]]]+[[[[[[p]]]]]]", -1);
        fault("y:!!!!!!p=1&!!!!!!p=1|((((((p=1))))))?[[[[[[p]]]]]]", -1);
        fault("y:p=[[[[[[1]]]]]]&!!!!!!p=1|((((((p=1))))))?1", -1);
        worth("y:[[[[[[p+1]+1]+1]+1]+1]+1]+1", 47);
        worth("y:!!!!!!p=40?1;y:2", 1);
        worth("y:!!!!!p=40?1;y:2", 2);
        worth("y:((((((p=40))))))?1;y:2", 1);
        Edge.says("a seventh of ( [ ! in a LAW at it.");
        fault("y:[[[[[[[p]]]]]]]", 8);
        fault("y:(((((((p=1)))))))?1", 8);
        fault("y:!!!!!!!p=1?1", 8);
        fault("y:!(!(!(!p=1)))?1", 8);
        fault("y:!!!!!![p]=1?1", 8);
        fault("y:!!!!!!p=[1]?1", 10);
        fault("y:((((((p=1&(p=1)))))))?1", 12);
        fault("y:p=1?[[[[[[[", 12);
        fault("y:p=[[[[[[[1]]]]]]]?1", 10);
        fault("y:p=1&!!!!!!!p=1?1", 12);
        fault("y:p=1|(((((((p=1)))))))?1", 12);
    }

    private static void numbers() {
        Edge.says("Behind each sign numbers are within -1,000,000 .. 1,000,000");
        worth("y:1000*1000-9999*100", 100);
        worth("y:1000*1000+1-9999*100", 100);
        worth("y:9999*9999-9999*100", 100);
        worth("y:9999*9999*9999/5000", 200);
        worth("y:9999*100+99-9999*100", 99);
        worth("y:9999*100+100+9999-9999*100", 100);
        worth("y:[0-1000]*1000+9999*100+200", 100);
        worth("y:[0-1000]*1000-1+9999*100+200", 100);
        worth("y:[0-9999]*9999+9999*100+200", 100);
        worth("y:[0-9999]*9999-9999+9999*100+200", 100);
        worth("y:[0-9999]*[0-9999]/5000", 200);
        worth("y:9999*9999=1000*1000?1;y:2", 1);
        worth("y:9999*9999>9999*100?1;y:2", 1);
    }

    private static void division() {
        Edge.says("/ cuts towards 0, by 0 gives 0.");
        worth("y:7/2", 3);
        worth("y:[0-7]/2+10", 7);
        worth("y:7/[0-2]+10", 7);
        worth("y:[0-7]/[0-2]", 3);
        worth("y:[0-1]/2+10", 10);
        worth("y:7/0", 0);
        worth("y:7/0+5", 5);
        worth("y:0/0+5", 5);
        worth("y:[0-7]/0+5", 5);
        worth("y:7/[p-40]+5", 5);
        worth("y:7/a+5", 5);
        worth("y:100/7/2", 7);
        worth("y:100/7*2", 28);
    }

    private static void worth() {
        Edge.says("WORTH of a LAW: the SUM of the first CLAUSE whose CONDITION holds (or has none), 0 without.");
        worth("y:p=40?1;y:p=40?2;y:3", 1);
        worth("y:p=41?1;y:p=40?2;y:3", 2);
        worth("y:p=41?1;y:p=41?2;y:3", 3);
        worth("y:3;y:p=40?1", 3);
        worth("y:p=41?1;y:p=42?2", 0);
        worth("y:p=41?1", 0);
        worth("y:7", 7);
    }

    private static void oneAndOther() {
        Edge.says("GRIP of a HAND with a TOOL (or none) on a JAR: WORTH by the LAW that holds (none at first: POWER and ADDS"
                + " less four times WET, less three times what WIDE is above SIZE, less COLD)");
        TightLid lid = Check.kitchen("jw8c4;jw6;jw5;hp40s6w2;hp40s9;ta15");
        Edge.due("none at first", lid.count(8), -1);
        Edge.due("wet, wide, cold", lid.grip(0, -1, 0), 40 - 8 - 6 - 4);
        Edge.due("and a tool", lid.grip(0, 0, 0), 40 + 15 - 8 - 6 - 4);
        Edge.due("as wide as the size", lid.grip(0, -1, 1), 32);
        Edge.due("less wide than the size", lid.grip(0, -1, 2), 32);
        Edge.due("a great hand on a wide jar", lid.grip(1, -1, 0), 36);
        Edge.says("p POWER (now), s SIZE, w WET (now), i WIDE, c COLD (now), a ADDS (0 without a TOOL); held within 0 .. 999.");
        worth("y:a", 0);
        worth("y:a+1", 1);
        worth("y:999", 999);
        worth("y:1000", 999);
        worth("y:9999*9999", 999);
        worth("y:0", 0);
        worth("y:0-1", 0);
        worth("y:[0-9999]*9999", 0);
        Edge.due("the plain one, too", Check.kitchen("jw9c9;hp0s1w9").grip(0, -1, 0), 0);
        Edge.due("as little as that", Check.kitchen("jw9c9;hp70s1w9").grip(0, -1, 0), 1);
        Edge.due("and as much", Check.kitchen("j;hp99;ta99").grip(0, 0, 0), 198);
        now(lid);
    }

    private static void now(TightLid lid) {
        Check.text(lid, 1, "y:p");
        Check.text(lid, 1, "y:w");
        Check.text(lid, 1, "y:c");
        Check.text(lid, 1, "y:a");
        lid.turn(0, -1, 0);
        lid.dry(0);
        lid.work(3);
        lid.law(0);
        Edge.due("power now", lid.grip(0, -1, 0), 38);
        lid.law(1);
        Edge.due("wet now", lid.grip(0, -1, 0), 0);
        lid.law(2);
        Edge.due("cold now", lid.grip(0, -1, 0), 7);
        lid.law(3);
        Edge.due("adds", lid.grip(0, 0, 0), 15);
        Edge.due("adds without a tool", lid.grip(0, -1, 0), 0);
    }
}
