/** Promises 27 to 30: least, plan, walk, bought. */
final class AdviceTest {
    public static void main(String[] args) {
        least();
        leastOthers();
        plan();
        planOrder();
        planLimits();
        walk();
        walkHours();
        bought();
        Check.finish("AdviceTest");
    }

    private static void least() {
        TruthBridge b = Check.bridge("facts 3 7;person 0 2 7 0;person 0 1 0 0;person 0 5 7 0", "a and b", "a", "a or b", "b",
                "a and b and c", "not a");
        Check.due("the least gain that bears", b.least(0, 0), 2);
        Check.due("who knows nothing", b.least(1, 0), -2);
        Check.due("and how many others", b.least(1, 1), -2);
        Check.due("who is heavier", b.least(2, 0), 0);
        Check.due("person 3", b.least(3, 0), -1);
        Check.due("person -1", b.least(-1, 0), -1);
        Check.due("what 2", b.least(0, 2), -1);
        Check.due("what -1", b.least(0, -1), -1);
        b.cross(1, 2);
        Check.due("a or b is known: of a and b the first", b.least(0, 0), 1);
        Check.due("too heavy now, but by all", b.least(2, 0), 4);
        b.cross(0, 5);
        Check.due("who fell", b.least(0, 0), -2);
        Check.due("without a land", new TruthBridge().least(0, 0), -1);
    }

    private static void leastOthers() {
        TruthBridge b = Check.bridge("facts 2 3;person 0 1 3 0;person 0 1 3 0;person 0 2 3 0;person 1 1 3 0;person 0 1 0 0;"
                + "person 0 1 1 0", "a", "b", "a or b");
        Check.due("by a or b", b.least(0, 0), 2);
        Check.due("1 and 5 can still, 2 not, 3 is over there, 4 knows nothing", b.least(0, 1), 2);
        Check.due("2 can by a alone", b.least(2, 0), 0);
        Check.due("behind that only 0 and 1", b.least(2, 1), 2);
        b.cross(1, 1);
        Check.due("who went over does not count", b.least(0, 0), 0);
        Check.due("nobody else behind a", b.least(0, 1), 0);
        TruthBridge c = Check.bridge("facts 2 3;person 0 1 3 0;person 0 1 3 0", "a or b", "a", "not a");
        Check.due("one other", c.least(0, 1), 1);
        c.cross(1, 2);
        Check.due("who fell can't", c.least(0, 1), 0);
        Check.due("nothing was done", c.count(11), 1);
    }

    private static void plans(TruthBridge b, int side, int... want) {
        Check.due("plan(" + side + ", 0)", b.plan(side, 0), want.length / 2);
        for (int what = 1; what <= 8; what++) {
            Check.due("plan(" + side + ", " + what + ")", b.plan(side, what), what <= want.length ? want[what - 1] : -2);
        }
    }

    private static void plan() {
        TruthBridge b = Check.bridge("facts 3 7;person 0 4 1 0;person 0 1 7 0;person 0 2 2 0;person 1 1 7 0", "a", "b", "c",
                "a and b and c", "not a");
        plans(b, 0, 0, 0, 2, 1, 1, 2);
        plans(b, 1, 3, 0);
        b.cross(0, 4);
        plans(b, 0, 1, 0, 2, 1);
        b.cross(1, 4);
        b.cross(2, 4);
        plans(b, 0);
        TruthBridge four = Check.bridge("facts 4 15;person 0 1 15 0;person 0 2 15 0;person 0 4 15 0;person 0 8 15 0", "a", "b",
                "c", "d");
        plans(four, 0, 3, 0, 2, 1, 1, 2, 0, 3);
        plans(four, 1);
        Check.due("nothing was done", four.count(11), 0);
    }

    /** Of all plans by which most get over the first as a row. */
    private static void planOrder() {
        TruthBridge b = Check.bridge("facts 2 3;person 0 1 3 0;person 0 1 3 0", "a and b", "a", "b", "a or b");
        plans(b, 0, 0, 1, 1, 0);
        TruthBridge c = Check.bridge("facts 2 3;person 0 1 3 0;person 0 1 1 0;person 0 1 3 0", "a or b", "b", "a");
        plans(c, 0, 0, 0, 1, 2, 2, 1);
        TruthBridge d = Check.bridge("facts 2 3;person 0 1 3 0;person 1 1 3 0;person 0 2 3 0", "a", "b");
        plans(d, 0, 2, 0, 0, 1);
    }

    private static void planLimits() {
        TruthBridge b = Check.bridge("facts 1 1;person 0 1 1 0;person 0 1 1 0;person 0 1 1 0;person 0 1 1 0;person 0 1 1 0;"
                + "person 1 1 1 0", "not a", "b", "b", "b", "b", "b", "b", "b", "a");
        Check.due("five are there", b.plan(0, 0), -3);
        Check.due("whatever is asked", b.plan(0, 8), -3);
        Check.due("a plan uses the sayings 0 to 7 alone", b.plan(1, 0), 0);
        Check.due("first of none", b.plan(1, 1), -2);
        b.cross(2, 0);
        Check.due("four who have not fallen", b.plan(0, 0), 0);
        Check.due("side 2", b.plan(2, 0), -1);
        Check.due("side -1", b.plan(-1, 0), -1);
        Check.due("what 9", b.plan(0, 9), -1);
        Check.due("what -1", b.plan(0, -1), -1);
        Check.due("without a land", new TruthBridge().plan(0, 0), -1);
        TruthBridge eight = Check.bridge("facts 1 1;person 0 1 1 0", "b", "b", "b", "b", "b", "b", "b", "a");
        plans(eight, 0, 0, 7);
    }

    private static void walk() {
        TruthBridge b = Check.bridge("facts 4 15;person 0 8 0 0;person 0 12 0 0;person 0 15 0 0;person 0 1 15 0;place 0;place 1;"
                + "place 2;place 1;path 0 1 4;path 0 2 3;path 1 2 2;path 0 3 4", "b", "b and c", "not a or d",
                "a and b and c and d");
        Check.due("to b", b.walk(0, 0), 8);
        Check.due("the least of the two", b.walk(0, 1), 2);
        Check.due("round by b and c", b.walk(1, 0), 9);
        Check.due("that set", b.walk(1, 1), 6);
        Check.due("none is enough", b.walk(2, 0), -2);
        Check.due("nor a set", b.walk(2, 1), -2);
        Check.due("no walk is needed", b.walk(3, 0), 0);
        Check.due("no place either", b.walk(3, 1), 0);
        Check.due("person 4", b.walk(4, 0), -1);
        Check.due("person -1", b.walk(-1, 0), -1);
        Check.due("what 2", b.walk(0, 2), -1);
        Check.due("what -1", b.walk(0, -1), -1);
        Check.due("nothing was done", b.person(0, 3) + b.count(11), 0);
        TruthBridge bridge = Check.bridge("facts 1 1;person 0 1 0 0;place 0", "a");
        Check.due("at the bridge", bridge.walk(0, 0), 0);
        Check.due("place 0 is in the set", bridge.walk(0, 1), 1);
        TruthBridge none = Check.bridge("facts 1 1;person 0 1 1 0;person 0 1 0 0", "a", "not a");
        Check.due("without places", none.walk(0, 0), 0);
        Check.due("without places nothing is learnt", none.walk(1, 0), -2);
        none.cross(0, 1);
        Check.due("who fell", none.walk(0, 0), -2);
        Check.due("without a land", new TruthBridge().walk(0, 0), -1);
    }

    private static void walkHours() {
        TruthBridge b = Check.bridge("facts 3 3;person 0 1 0 0;place 2;place 0;place 1;place 2;path 0 1 6;path 1 2 6;path 2 3 6",
                "a", "b", "not c and not a", "not c");
        Check.due("not c at the bridge", b.walk(0, 0), 0);
        b.cross(0, 3);
        Check.due("to a", b.walk(0, 0), 12);
        Check.due("set", b.walk(0, 1), 2);
        b.look(0, 1);
        Check.due("a is known now", b.walk(0, 0), 0);
        b.cross(0, 0);
        Check.due("12 hours are left, b takes 24", b.walk(0, 0), -2);
        b.midnight();
        Check.due("just 24", b.walk(0, 0), 24);
        Check.due("b alone, though a lies on the way", b.walk(0, 1), 4);
        b.look(0, 0);
        Check.due("no hours gone", b.walk(0, 0), 24);
        TruthBridge round = Check.bridge("facts 2 3;person 0 3 0 0;person 0 2 0 0;place 0;place 0;place 1;path 0 1 8;path 1 2 8;"
                + "path 0 2 8", "a and b");
        Check.due("b alone can be seen, a at the bridge", round.walk(0, 0), 16);
        TruthBridge odd = Check.bridge("facts 3 7;person 0 6 0 0;place 2;place 0;place 1;path 0 1 8;path 1 2 9;path 0 2 8",
                "a and b");
        Check.due("25 hours are too many", odd.walk(0, 0), -2);
        TruthBridge even = Check.bridge("facts 3 7;person 0 6 0 0;place 2;place 0;place 1;path 0 1 8;path 1 2 8;path 0 2 8",
                "a and b");
        Check.due("24 hours are not", even.walk(0, 0), 24);
        Check.due("two places", even.walk(0, 1), 6);
        TruthBridge all = Check.bridge("facts 6 63;person 0 63 0 0;person 0 62 62 0;place 0;place 1;place 2;place 3;place 4;"
                + "place 5;path 0 1 4;path 1 2 4;path 2 3 4;path 3 4 4;path 4 5 4;path 5 0 4", "a and b and c and d and e and f");
        Check.due("round by all places", all.walk(0, 0), 24);
        Check.due("all places", all.walk(0, 1), 63);
        Check.due("only the bridge's own", all.walk(1, 1), 1);
        TruthBridge star = Check.bridge("facts 6 63;person 0 62 1 0;place 0;place 1;place 2;place 3;place 4;place 5;path 0 1 1;"
                + "path 0 2 2;path 0 3 3;path 0 4 2;path 0 5 3", "a and b and c and d and e and f");
        Check.due("there and back to each", star.walk(0, 0), 22);
        Check.due("all but the bridge", star.walk(0, 1), 62);
        TruthBridge far = Check.bridge("facts 1 1;person 0 1 0 0;place 0;place 0;path 0 1 9", "a");
        Check.due("of two sets the fewest hours", far.walk(0, 1), 1);
        TruthBridge apart = Check.bridge("facts 2 3;person 0 1 0 0;place 0;place 1", "b");
        Check.due("no way there", apart.walk(0, 0), -2);
    }

    private static void bought() {
        TruthBridge b = Check.bridge("facts 3 7;person 0 6 0 1;person 1 1 1 5;person 0 1 2 6;person 0 1 3 10;person 0 1 4 50;"
                + "person 0 2 0 0", "a and b", "a", "not a", "c");
        Check.due("a and b from 3", b.bought(0, 0), 10);
        Check.due("set", b.bought(0, 1), 8);
        Check.due("a from 1", b.bought(5, 0), 5);
        Check.due("set of 1", b.bought(5, 1), 2);
        Check.due("who needs none", b.bought(3, 0), 0);
        Check.due("no set", b.bought(3, 1), 0);
        b.cross(1, 2);
        Check.due("who fell tells, too", b.bought(5, 1), 2);
        Check.due("who fell buys nothing", b.bought(1, 0), -2);
        Check.due("no set for who fell", b.bought(1, 1), -2);
        Check.due("person 6", b.bought(6, 0), -1);
        Check.due("person -1", b.bought(-1, 0), -1);
        Check.due("what 2", b.bought(0, 2), -1);
        Check.due("what -1", b.bought(0, -1), -1);
        TruthBridge c = Check.bridge("facts 2 3;person 0 3 0 9;person 0 1 1 3;person 0 1 2 3;person 1 1 3 6", "a and b");
        Check.due("together", c.bought(0, 0), 6);
        Check.due("of two sets the least", c.bought(0, 1), 6);
        TruthBridge d = Check.bridge("facts 2 3;person 0 3 0 9;person 1 1 3 6;person 0 1 1 0;person 0 1 2 6", "a and b");
        Check.due("none of whom is not needed", d.bought(0, 1), 2);
        TruthBridge first = Check.bridge("facts 2 3;person 1 1 3 7;person 0 3 0 0;person 0 1 3 8", "a and b");
        Check.due("from person 0", first.bought(1, 0), 7);
        Check.due("the set of person 0", first.bought(1, 1), 1);
        TruthBridge e = Check.bridge("facts 2 1;person 0 1 0 0;person 0 1 1 0", "b", "not a");
        Check.due("not by what is not so", e.bought(0, 0), -2);
        Check.due("without a land", new TruthBridge().bought(0, 0), -1);
    }
}
