/** Promise 6: rule, and the FAULTS of its text; promise 22: run, what the words and signs mean. */
final class RuleTest {
    public static void main(String[] args) {
        faults();
        limits();
        six();
        oneAfterAnother();
        sums();
        tests();
        words();
        choices();
        running();
        wrongRuns();
        Check.finish("RuleTest");
    }

    private static void due(String text, int want) {
        TruthBridge b = new TruthBridge();
        Check.due("rule " + text, Check.rule(b, text), want);
        Check.due("rule " + text + ": tape", b.count(13), 0);
        Check.due("rule " + text + ": rules", b.count(7), want < 0 ? 0 : 1);
    }

    private static void faults() {
        due("", Check.fault(0, 0));
        due("say", Check.fault(3, 0));
        due("says 1", Check.fault(0, 0));
        due("if 1", Check.fault(0, 0));
        due("say 1 say 2", Check.fault(6, 0));
        due("say1", 0);
        due("say 1 if", Check.fault(8, 0));
        due("say 1 iff 1=1", Check.fault(6, 0));
        due("say 1 if 1", Check.fault(10, 0));
        due("say 1 if [1]=1", Check.fault(11, 0));
        due("say [1]", Check.fault(4, 0));
        due("say -1", Check.fault(4, 0));
        due("say 1+", Check.fault(6, 0));
        due("say 1+*2", Check.fault(6, 0));
        due("say 1=1", Check.fault(5, 0));
        due("say 1 if 1=1=1", Check.fault(12, 0));
        due("say 1 if 1==1", Check.fault(11, 0));
        due("say 1 if 1=<1", Check.fault(11, 0));
        due("say 1 if 1<=1", 0);
        due("say 1 if 1>=1", 0);
        due("say 1 if 1<=", Check.fault(12, 0));
        due("say 1 if 1>=", Check.fault(12, 0));
        due("say 1 if 1<", Check.fault(11, 0));
        due("say 1 if 1< =1", Check.fault(12, 0));
        due("say 1 if 1>>1", Check.fault(11, 0));
        due("say 1 if not", Check.fault(12, 0));
        due("say 1 if 1=1 and", Check.fault(16, 0));
        due("say 1 if 1=1 or or", Check.fault(16, 0));
        due("say 1 if [1=1", Check.fault(13, 0));
        due("say 1 if 1=1]", Check.fault(12, 0));
        due("say strength", Check.fault(4, 0));
        due("say a", Check.fault(4, 0));
        due("say say", Check.fault(4, 0));
        due("say facts", Check.fault(4, 0));
        due("say gains", Check.fault(4, 0));
        due("say 1;", Check.fault(6, 0));
        due("say 1; ;", Check.fault(7, 0));
        due("say 1;if", Check.fault(6, 0));
        due("say 99999", 0);
        due("say 100000", Check.fault(4, 1));
        due("say 000001", Check.fault(4, 1));
        due("say 1 000001", Check.fault(6, 0));
        due("say 1 if 2 > 123456", Check.fault(13, 1));
        due("say 1x", Check.fault(5, 0));
        due("say Gain", Check.fault(4, 0));
        due("say gain2", Check.fault(8, 0));
    }

    private static void limits() {
        due("say 1 if " + "[".repeat(10) + "1=1" + "]".repeat(10), 0);
        due("say 1 if " + "[".repeat(11) + "1=1", Check.fault(19, 2));
        due("say 1 if " + "not ".repeat(10) + "1=1", 0);
        due("say 1 if " + "not ".repeat(11) + "1=1", Check.fault(49, 2));
        due("say 1 if " + "[not ".repeat(5) + "[", Check.fault(34, 2));
        due("say 1;".repeat(11) + "say 1", 0);
        due("say 1;".repeat(12) + "say 1", Check.fault(72, 4));
        due("say 1;".repeat(12) + "say", Check.fault(72, 4));
        due("say 1;".repeat(12) + "sey 1", Check.fault(72, 0));
        due("say 1;".repeat(12), Check.fault(72, 0));
        due("say 1" + "+1".repeat(59), 0);
        due("say 1" + "+1".repeat(60), Check.fault(124, 3));
        due("say 1" + "+1".repeat(59) + "+gone", Check.fault(124, 0));
        due("say 1" + "+1".repeat(59) + "+gain", Check.fault(124, 3));
        due("say 1" + "+1".repeat(59) + "+123456", Check.fault(124, 1));
        due("say 1" + "+1".repeat(59) + "+", Check.fault(124, 0));
        due("say 1" + "+1".repeat(56) + " if 1=1", 0);
        due("say 1" + "+1".repeat(57) + " if 1=1", Check.fault(125, 3));
        due("say 1" + "+1".repeat(58) + " if 1 = 1", Check.fault(127, 3));
        due("say 1" + "+1".repeat(58) + " if 1 <= 1", Check.fault(127, 3));
        due("say 1" + "+1".repeat(58) + " if 1 ! 1", Check.fault(127, 0));
        due("say 1" + "+1".repeat(29) + ";say 1" + "+1".repeat(30), Check.fault(128, 3));
    }

    private static void six() {
        TruthBridge b = new TruthBridge();
        for (int i = 0; i < 6; i++) {
            Check.due("rule " + i, Check.rule(b, "say 1"), i);
        }
        Check.due("a seventh", Check.rule(b, "say 1"), -1);
        Check.due("its tape stays", b.count(13), 5);
        Check.due("a wrong seventh", Check.rule(b, "s"), -1);
        Check.due("rules", b.count(7), 6);
    }

    /** Each text begins anew, whatever was read before it. */
    private static void oneAfterAnother() {
        TruthBridge b = Check.bridge("facts 3 7;person 0 1 7 0", "a", "b", "c");
        for (int i = 0; i < 6; i++) {
            Check.due("a wrong rule", Check.rule(b, "say 1;say 2 if 1=1 and [1"), Check.fault(25, 0));
            Check.due("a full rule", Check.rule(b, "say 1" + "+1-1".repeat(9) + " if saying=" + i + ";"
                    + "say 5 if 1=2;".repeat(9) + "say 0;say 9"), i);
        }
        for (int i = 2; i >= 0; i--) {
            Check.due("run of rule " + i, b.run(i, 1), 1);
            Check.due("known by rule " + i, b.knows(-1, i), 1);
            Check.due("worlds by rule " + i, b.count(9), 1 << i);
        }
        Check.due("rule 5 says nothing", b.run(5, 1), 0);
    }

    /** Whether one crosses at all tells whether a sum is above 0. */
    private static void says(String rule, boolean above) {
        TruthBridge b = Check.bridge("facts 2 1;person 0 2 0 7", "a");
        Check.due("rule " + rule, Check.rule(b, rule), 0);
        Check.due("run of " + rule, b.run(0, 1), above ? 1 : 0);
        Check.due("worlds behind " + rule, b.count(9), above ? 2 : 4);
    }

    private static void sums() {
        says("say 1", true);
        says("say 0", false);
        says("say 1-2", false);
        says("say 3-1-1", true);
        says("say 3-1-2", false);
        says("say 2+3*4-14", false);
        says("say 2+3*4-13", true);
        says("say 7/2-3", false);
        says("say 7/2-2", true);
        says("say 1-7/2+3", true);
        says("say 1/2", false);
        says("say 8/2/2-1", true);
        says("say 8/2/2-2", false);
        says("say 8%5*2-5", true);
        says("say 8%5*2-6", false);
        says("say 5/0", false);
        says("say 5%0", false);
        says("say 1-5/0", true);
        says("say 1-5%0", true);
        says("say 99999*99999*99999*99999", true);
        says("say 99999*99999*99999*99999*2", false);
        says("say 0-99999*99999*99999*99999*2", true);
    }

    private static void tests() {
        says("say 1 if 1<2", true);
        says("say 1 if 2<2", false);
        says("say 1 if 2<=2", true);
        says("say 1 if 3<=2", false);
        says("say 1 if 2=2", true);
        says("say 1 if 2=1", false);
        says("say 1 if 2>=2", true);
        says("say 1 if 1>=2", false);
        says("say 1 if 2>1", true);
        says("say 1 if 2>2", false);
        says("say 1 if not 2>2", true);
        says("say 1 if not not 2>2", false);
        says("say 1 if 1=1 or 1=1 and 1=2", true);
        says("say 1 if [1=1 or 1=1] and 1=2", false);
        says("say 1 if 1=2 or 1=2 or 1=1", true);
        says("say 1 if 1=1 and 1=1 and 1=2", false);
        says("say 1 if not [1=2 or 1=2]", true);
        says("say 1 if not 1=2 and 1=2", false);
        says("say 1 if 0-7/2=0-3 and 0-7%2=0-1", true);
        says("say 1 if 0-7+7=0", true);
        says("say 1 if 1-3/2*2+1=0", true);
        says("say 0 if 1=2; say 1", true);
        says("say 1 if 1=2; say 0", false);
        says("say 0 if 1=1; say 1", false);
        says("say 1 if 1=2; say 1 if 1=2", false);
        says("say 1 if 1=2;say 0-1 if 1=2;say 5;say 0", true);
        says("say 0-7/2*2+6", false);
        says("say 1 if 3-8/0-3%0=3", true);
    }

    private static void words() {
        says("say 1 if person=0", true);
        says("say 1 if side=0", true);
        says("say 1 if weight=2", true);
        says("say 1 if saying=0", true);
        says("say 1 if knows=0", true);
        says("say 1 if gain=2", true);
        says("say 1 if left=4", true);
        says("say 1 if here=0", true);
        says("say 1 if day=0", true);
        says("say 1 if price=7", true);
        TruthBridge b = Check.bridge("facts 2 3;person 1 1 1 9;person 0 5 0 0;person 1 2 2 8;person 0 1 0 1", "a", "b");
        Check.rule(b, "say saying+1 if person=2 and side=1 and weight=2 and price=8 and here=1 and left=4 and day=1 and "
                + "gain=2 and knows=saying");
        b.midnight();
        Check.due("only person 2 crosses, by b", b.run(0, 1), 1);
        Check.due("on the other side", b.person(2, 0), 0);
        Check.due("the bridge knows b", b.knows(-1, 1), 1);
        Check.due("the bridge knows a", b.knows(-1, 0), 0);
    }

    private static void choices() {
        String land = "facts 3 7;person 0 1 7 0";
        TruthBridge b = Check.bridge(land, "a", "b", "c");
        Check.rule(b, "say 5 if saying>0;say 1");
        Check.due("of two as great the first", b.run(0, 1), 1);
        Check.due("the first", b.knows(-1, 1), 1);
        Check.due("not the second", b.knows(-1, 2), 0);
        TruthBridge c = Check.bridge(land, "a", "b", "c");
        Check.rule(c, "say saying");
        Check.due("the greatest", c.run(0, 1), 1);
        Check.due("the last", c.knows(-1, 2), 1);
        TruthBridge d = Check.bridge("facts 2 3;person 0 1 0 0;person 0 1 0 0;person 1 1 0 0", "a", "a");
        Check.rule(d, "say 1 if person=0;say here*2-1 if person=1 and left=2;say 1 if left=2 and here=1");
        Check.due("who falls by what was known is still here", d.run(0, 1), 1);
        Check.due("0 is over", d.person(0, 0), 1);
        Check.due("1 is not (alone now)", d.person(1, 0), 0);
        Check.due("2 fell, but it is the next day", d.person(2, 4), 0);
    }

    private static void running() {
        TruthBridge b = Check.bridge("facts 2 0;person 0 2 3 0;turn 0 2;turn 0 3", "not a", "a", "not b");
        Check.rule(b, "say 1 if saying=0 and day=0;say 1 if saying=1 and day=2;say 1 if saying=0 and day=3");
        b.midnight();
        b.undo();
        b.cross(0, 2);
        Check.due("acts ahead", b.count(11), 1);
        Check.due("days", b.run(0, 1), 0);
        Check.due("acts behind", b.count(11), 0);
        Check.due("undo behind", b.undo(), -2);
        Check.due("the day", b.count(8), 1);
        Check.due("the bridge knows not b and not a", b.count(9), 1);
        Check.due("three more", b.run(0, 3), 0);
        Check.due("the day then", b.count(8), 4);
        Check.due("a is not so again", b.fact(0), 0);
        Check.due("known at last", b.count(9), 1);
        TruthBridge c = Check.bridge("facts 1 1;person 0 1 0 0;person 1 1 0 0", "a", "not a");
        Check.rule(c, "say 1");
        c.cross(1, 1);
        Check.due("who fell ahead does not cross", c.run(0, 1), 1);
        Check.due("0 went over", c.person(0, 0), 1);
        Check.due("1 did not", c.person(1, 0), 1);
        TruthBridge d = Check.bridge("facts 1 1;person 0 1 0 0;turn 0 1;turn 0 2");
        Check.rule(d, "say 1");
        Check.due("days go by without sayings", d.run(0, 60), 0);
        Check.due("their number", d.count(8), 60);
    }

    private static void wrongRuns() {
        TruthBridge b = new TruthBridge();
        Check.rule(b, "say 1");
        Check.due("without a land", b.run(0, 1), -1);
        Check.land(b, "facts 1 0;person 0 1 1 0");
        Check.due("rule -1", b.run(-1, 1), -1);
        Check.due("rule 1", b.run(1, 1), -1);
        Check.due("0 days", b.run(0, 0), -1);
        Check.due("61 days", b.run(0, 61), -1);
        Check.due("-1 days", b.run(0, -1), -1);
        Check.due("least days", b.run(0, Integer.MIN_VALUE), -1);
        b.midnight();
        Check.due("nothing happened", b.count(11), 1);
        for (int i = 0; i < 166; i++) {
            b.run(0, 60);
        }
        Check.due("day 9961", b.count(8), 9961);
        Check.due("39 days more would be 10000", b.run(0, 39), -1);
        Check.due("day still 9961", b.count(8), 9961);
        Check.due("38 days more", b.run(0, 38), 0);
        Check.due("midnight of the last", b.midnight(), -1);
        Check.due("no act", b.count(11), 0);
        Check.due("run of the last", b.run(0, 1), -1);
    }
}
