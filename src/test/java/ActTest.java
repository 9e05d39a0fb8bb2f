/** Promises 17 to 21: cross, tell, look, midnight, undo. */
final class ActTest {
    public static void main(String[] args) {
        crossing();
        telling();
        looking();
        midnights();
        turnsOfManyFacts();
        undoing();
        onlyTwenty();
        Check.finish("ActTest");
    }

    private static void crossing() {
        TruthBridge b = Check.bridge("facts 3 3;person 0 4 0 0;person 1 5 0 0;person 0 1 7 0", "a", "b", "c", "a or b");
        Check.due("without that person", b.cross(3, 0), -1);
        Check.due("person -1", b.cross(-1, 0), -1);
        Check.due("without that saying", b.cross(0, 4), -1);
        Check.due("saying -1", b.cross(0, -1), -1);
        Check.due("no act", b.count(11), 0);
        Check.due("too heavy", b.cross(1, 0), 2);
        Check.due("still there", b.person(1, 0), 1);
        Check.due("but the bridge was told", b.count(9), 4);
        Check.due("what was known", b.cross(0, 0), 1);
        Check.due("fell", b.person(0, 4), 1);
        Check.due("nothing more", b.cross(0, 1), -1);
        Check.due("what follows from what was known", b.cross(1, 3), 1);
        Check.due("just so heavy", b.cross(2, 1), 3);
        Check.due("over", b.person(2, 0), 1);
        Check.due("the bridge was told that", b.count(9), 2);
        Check.due("what is not so", b.cross(2, 2), 0);
        Check.due("nothing was told", b.count(9), 2);
        Check.due("fell there", b.person(2, 4), 1);
        Check.due("acts", b.count(11), 5);
        b.midnight();
        Check.due("they can again", b.cross(2, 2), 0);
        TruthBridge c = Check.bridge("facts 2 3;person 0 2 0 0;person 0 3 0 0;person 1 2 0 0", "a");
        Check.due("gain just the weight, not known to them", c.cross(2, 0), 3);
        Check.due("from 1 to 0", c.person(2, 0), 0);
        Check.due("they do not learn", c.person(2, 5), 4);
        TruthBridge d = Check.bridge("facts 8 255;person 0 128 0 0", "a", "h");
        Check.due("the heaviest", d.cross(0, 1), 3);
        Check.due("once more", d.cross(0, 0), 2);
    }

    private static void telling() {
        TruthBridge b = Check.bridge("facts 2 3;person 0 1 1 0;person 0 1 2 0;person 1 1 3 0;person 0 1 0 0", "a", "b",
                "not a", "a and b");
        Check.due("the first does not know it", b.tell(0, 1, 1), -1);
        Check.due("other sides", b.tell(2, 0, 1), -1);
        Check.due("oneself", b.tell(0, 0, 0), -1);
        Check.due("no such one", b.tell(4, 0, 0), -1);
        Check.due("no such other", b.tell(0, 4, 0), -1);
        Check.due("the bridge does not tell", b.tell(-1, 0, 0), -1);
        Check.due("no such saying", b.tell(0, 1, 4), -1);
        Check.due("saying -1", b.tell(0, 1, -1), -1);
        Check.due("no act", b.count(11), 0);
        Check.due("told", b.tell(0, 3, 0), 2);
        Check.due("told again", b.tell(0, 3, 0), 2);
        Check.due("acts", b.count(11), 2);
        Check.due("knows it", b.knows(3, 0), 1);
        Check.due("told more", b.tell(1, 3, 1), 1);
        Check.due("knows both", b.knows(3, 3), 1);
        Check.due("the bridge was not told", b.count(9), 4);
        Check.due("tells on", b.tell(3, 0, 3), 1);
        b.cross(3, 2);
        Check.due("who fell tells nothing", b.tell(3, 1, 0), -1);
        Check.due("who fell is told nothing", b.tell(0, 3, 0), -1);
        Check.due("2 goes over", b.cross(2, 3), 3);
        Check.due("is beside them", b.tell(2, 1, 3), 1);
    }

    private static void looking() {
        TruthBridge b = Check.bridge("facts 3 5;person 0 1 0 0;person 1 1 0 0;place 0;place 1;place 2;place 2;path 0 1 5;"
                + "path 1 2 2", "b");
        Check.due("at the bridge", b.look(0, 0), 1);
        Check.due("without hours", b.person(0, 3), 0);
        Check.due("worlds", b.person(0, 5), 4);
        Check.due("there and back", b.look(0, 1), 0);
        Check.due("hours", b.person(0, 3), 10);
        Check.due("worlds then", b.person(0, 5), 2);
        Check.due("what they know", b.person(0, 6), 3);
        Check.due("just 24", b.look(0, 2), 1);
        Check.due("hours then", b.person(0, 3), 24);
        Check.due("all is known", b.person(0, 5), 1);
        Check.due("no hours are left", b.look(0, 1), -1);
        Check.due("but at the bridge", b.look(0, 0), 1);
        Check.due("no way", b.look(1, 3), -1);
        Check.due("no place", b.look(1, 4), -1);
        Check.due("place -1", b.look(1, -1), -1);
        Check.due("no person", b.look(2, 0), -1);
        Check.due("the bridge does not look", b.look(-1, 0), -1);
        Check.due("acts", b.count(11), 4);
        Check.due("others have not gone", b.person(1, 3), 0);
        Check.due("nor seen", b.person(1, 5), 8);
        b.cross(1, 0);
        Check.due("who fell sees nothing", b.look(1, 0), -1);
        b.midnight();
        Check.due("new hours", b.person(0, 3), 0);
        Check.due("a new look", b.look(1, 2), 1);
        Check.due("14 and 14 are too many", b.look(1, 2), -1);
        TruthBridge none = Check.bridge("facts 1 1;person 0 1 0 0");
        Check.due("no places at all", none.look(0, 0), -1);
        TruthBridge six = Check.bridge("facts 1 1;person 0 1 0 0;person 0 1 0 0;person 0 1 0 0;person 0 1 0 0;person 0 1 0 0;"
                + "person 0 1 0 0;place 0;place 0;path 0 1 1", "not a");
        for (int p = 0; p < 6; p++) {
            for (int times = 0; times <= p; times++) {
                six.look(p, 1);
            }
            six.undo();
            Check.due("hours of " + p + " but for the last look", six.person(p, 3), 2 * p);
            Check.due("falls", six.cross(p, 0), 0);
        }
        Check.land(six, "facts 1 1;person 0 1 0 0;person 0 1 0 0;person 0 1 0 0;person 0 1 0 0;person 0 1 0 0;person 0 1 0 0");
        for (int p = 0; p < 6; p++) {
            Check.due("a new land has new hours", six.person(p, 3), 0);
            Check.due("and nobody who fell", six.person(p, 4), 0);
        }
    }

    private static void midnights() {
        TruthBridge b = new TruthBridge();
        Check.due("without a land", b.midnight(), -1);
        b = Check.bridge("facts 2 1;person 0 1 3 0;person 1 1 3 0;turn 0 2;turn 1 2;turn 0 3;turn 0 3", "a", "not a");
        b.cross(0, 1);
        Check.due("day 1", b.midnight(), 1);
        Check.due("a is still so", b.fact(0), 1);
        Check.due("still known", b.person(0, 5), 1);
        Check.due("up again", b.person(0, 4), 0);
        Check.due("over", b.cross(0, 0), 3);
        Check.due("the bridge", b.count(9), 2);
        Check.due("day 2", b.midnight(), 2);
        Check.due("facts turned", b.count(1), 2);
        Check.due("known no more", b.person(0, 5), 4);
        Check.due("known to none", b.person(1, 6), 0);
        Check.due("the bridge neither", b.count(9), 4);
        Check.due("not a is so", b.cross(1, 1), 3);
        Check.due("known to the bridge", b.count(9), 2);
        Check.due("day 3", b.midnight(), 3);
        Check.due("turned twice", b.count(1), 2);
        Check.due("and still known no more", b.count(9), 4);
        Check.due("sides stay", b.person(0, 0) * 2 + b.person(1, 0), 2);
    }

    /** Of each fact alone: what is known of the others stays. */
    private static void turnsOfManyFacts() {
        for (int turned = 0; turned < 32; turned++) {
            int fact = turned % 8;
            int so = turned / 8 * 64 + 26;
            TruthBridge b = Check.bridge("facts 8 " + so + ";person 0 1 255 0;turn " + fact + " 1");
            b.midnight();
            Check.due("facts behind the turn of " + fact, b.count(1), so ^ 1 << fact);
            Check.due("what is still known", b.person(0, 6), 255 ^ 1 << fact);
            Check.due("two worlds", b.person(0, 5), 2);
            Check.due("the one", b.possible(0, so), 1);
            Check.due("the other", b.possible(0, so ^ 1 << fact), 1);
        }
    }

    private static void undoing() {
        TruthBridge b = Check.bridge("facts 2 3;person 0 1 1 0;person 0 2 0 0;place 0;place 1;path 0 1 4;turn 1 1", "a", "b",
                "not a");
        Check.due("nothing yet", b.undo(), -2);
        b.cross(0, 0);
        b.tell(0, 1, 0);
        b.cross(0, 1);
        b.tell(0, 1, 0);
        b.undo();
        b.look(1, 1);
        b.cross(1, 2);
        b.midnight();
        Check.due("acts", b.count(11), 5);
        Check.due("midnight undone", b.undo(), 4);
        Check.due("the day", b.count(8), 0);
        Check.due("b is so", b.fact(1), 1);
        Check.due("fell", b.person(1, 4), 1);
        Check.due("hours", b.person(1, 3), 8);
        Check.due("the fall undone", b.undo(), 3);
        Check.due("up", b.person(1, 4), 0);
        Check.due("the look undone", b.undo(), 2);
        Check.due("hours gone", b.person(1, 3), 0);
        Check.due("not seen", b.person(1, 5), 4);
        b.seed(9);
        b.trial(0, true);
        Check.due("the crossing undone", b.undo(), 1);
        Check.due("the second time over is not", b.person(0, 0), 1);
        Check.due("the bridge knows a alone", b.count(9), 2);
        Check.due("the first one undone", b.undo(), 0);
        Check.due("back on the first side", b.person(0, 0), 0);
        Check.due("the bridge knows nothing", b.count(9), 4);
        Check.due("none is left", b.undo(), -2);
        Check.due("x stays", b.count(12), 9);
        Check.due("trials stay", b.count(10), 1);
    }

    private static void onlyTwenty() {
        TruthBridge b = Check.bridge("facts 1 1");
        for (int i = 1; i <= 23; i++) {
            Check.due("midnight", b.midnight(), i);
            Check.due("acts", b.count(11), Math.min(i, 20));
        }
        for (int i = 19; i >= 10; i--) {
            Check.due("undo", b.undo(), i);
            Check.due("day", b.count(8), i + 3);
        }
        b.midnight();
        b.midnight();
        Check.due("acts again", b.count(11), 12);
        for (int i = 11; i >= 0; i--) {
            Check.due("undo again", b.undo(), i);
            Check.due("day again", b.count(8), i + 3);
        }
        Check.due("no more", b.undo(), -2);
        Check.due("the day it began", b.count(8), 3);
    }
}
