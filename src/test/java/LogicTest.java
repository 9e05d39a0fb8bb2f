/** Promises 23 to 26: follows, fewest, opposite, when. */
final class LogicTest {
    public static void main(String[] args) {
        following();
        fewest();
        twelve();
        opposites();
        whens();
        whensLater();
        Check.finish("LogicTest");
    }

    private static TruthBridge four() {
        return Check.bridge("facts 3 0;person 0 1 0 0", "a", "not a or b", "b", "a and not a", "c or not c", "a and b");
    }

    private static void following() {
        TruthBridge b = four();
        Check.due("b from a, a then b", b.follows(3, 2), 1);
        Check.due("b from a", b.follows(1, 2), 0);
        Check.due("b from a then b", b.follows(2, 2), 0);
        Check.due("b from b", b.follows(4, 2), 1);
        Check.due("all from what can't be", b.follows(8, 2), 1);
        Check.due("what must be from nothing", b.follows(0, 4), 1);
        Check.due("b from nothing", b.follows(0, 2), 0);
        Check.due("a and b from a, b", b.follows(5, 5), 1);
        Check.due("from all", b.follows(63, 3), 1);
        Check.due("a set with one that is not", b.follows(64, 2), -1);
        Check.due("a set below 0", b.follows(-1, 2), -1);
        Check.due("the least set", b.follows(Integer.MIN_VALUE, 2), -1);
        Check.due("no saying", b.follows(1, 6), -1);
        Check.due("saying -1", b.follows(1, -1), -1);
        b.cross(0, 4);
        TruthBridge none = new TruthBridge();
        Check.saying(none, "a");
        Check.due("without a land", none.follows(1, 0), -1);
        TruthBridge small = Check.bridge("facts 1 0", "a", "not b", "b or a");
        Check.due("what the land has not is not so", small.follows(0, 1), 1);
        Check.due("so a follows from b or a", small.follows(4, 0), 1);
        TruthBridge knowing = Check.bridge("facts 2 3;person 0 1 0 0", "a", "b");
        knowing.cross(0, 0);
        Check.due("what the bridge knows does not count", knowing.follows(2, 0), 0);
    }

    private static void fewest() {
        TruthBridge b = four();
        Check.due("b from a, a then b, a and b", b.fewest(35, 2), 32);
        Check.due("b from a, a then b", b.fewest(3, 2), 3);
        Check.due("b from all: one of the least", b.fewest(63, 2), 4);
        Check.due("what can't be from all", b.fewest(63, 3), 8);
        Check.due("what must be", b.fewest(63, 4), 0);
        Check.due("b from a", b.fewest(1, 2), -2);
        Check.due("b from nothing", b.fewest(0, 2), -2);
        Check.due("a set with one that is not", b.fewest(65, 2), -1);
        Check.due("a set below 0", b.fewest(-8, 2), -1);
        Check.due("no saying", b.fewest(1, 6), -1);
        TruthBridge c = Check.bridge("facts 4 0", "a and b", "c", "d", "a", "b and c", "a and b and c and d");
        Check.due("of two the least", c.fewest(31, 3), 1);
        Check.due("of three times three the least", c.fewest(31, 5), 7);
        Check.due("of two times three the least", c.fewest(29, 5), 21);
        Check.due("the last three", c.fewest(28, 5), 28);
        Check.due("not one that is not in the set", c.fewest(24, 3), 8);
        TruthBridge none = new TruthBridge();
        Check.saying(none, "a");
        Check.due("without a land", none.fewest(1, 0), -1);
    }

    private static void twelve() {
        String[] texts = new String[24];
        for (int i = 0; i < 24; i++) {
            texts[i] = "" + (char) ('a' + i % 8);
        }
        texts[23] = "a and b and c and d and e and f and g and h";
        TruthBridge b = Check.bridge("facts 8 0", texts);
        Check.due("eight of twelve", b.fewest(0xFFF, 23), 0xFF);
        Check.due("thirteen", b.fewest(0x1FFF, 23), -1);
        Check.due("twelve up high", b.fewest(0xFFF << 11, 23), 0xFF << 11);
        Check.due("itself is fewer", b.fewest(0xFFF << 12, 23), 1 << 23);
        Check.due("not without g", b.fewest(0xFFF & ~(1 << 6), 23), -2);
        Check.due("all follow", b.follows((1 << 24) - 1, 23), 1);
        Check.due("one more than all", b.follows(1 << 24, 23), -1);
    }

    private static void opposites() {
        TruthBridge b = Check.bridge("facts 2 3;person 0 1 0 0", "a", "not a", "a and b", "not b", "c", "a or b");
        Check.due("a, not a", b.opposite(0, 1), 1);
        Check.due("not a, a", b.opposite(1, 0), 1);
        Check.due("a and b, not b", b.opposite(2, 3), 1);
        Check.due("a, not b", b.opposite(0, 3), 0);
        Check.due("a, c: the land has no c", b.opposite(0, 4), 1);
        Check.due("a, a or b", b.opposite(0, 5), 0);
        Check.due("the same", b.opposite(0, 0), -1);
        Check.due("no such one", b.opposite(6, 0), -1);
        Check.due("no such other", b.opposite(0, 6), -1);
        Check.due("-1", b.opposite(-1, 0), -1);
        TruthBridge none = new TruthBridge();
        Check.saying(none, "a");
        Check.saying(none, "not a");
        Check.due("without a land", none.opposite(0, 1), -1);
    }

    private static void whens() {
        TruthBridge b = Check.bridge("facts 2 0;turn 0 5;turn 1 7;turn 0 9;turn 1 99;turn 0 20;turn 0 20", "a", "b", "a and b",
                "not b", "a and not b", "not a and not b");
        Check.due("a", b.when(0, 0), 5);
        Check.due("a from 8", b.when(0, 8), 8);
        Check.due("a from 9", b.when(0, 9), -2);
        Check.due("both", b.when(2, 0), 7);
        Check.due("both from 9", b.when(2, 9), -2);
        Check.due("not b", b.when(3, 0), 0);
        Check.due("not b from 7", b.when(3, 7), 99);
        Check.due("not b from 200", b.when(3, 200), 200);
        Check.due("from the last day", b.when(5, 9999), 9999);
        Check.due("turned twice in a day", b.when(0, 20), -2);
        Check.due("day 10000", b.when(3, 10000), -1);
        Check.due("day -1", b.when(3, -1), -1);
        Check.due("no saying", b.when(6, 0), -1);
        Check.due("saying -1", b.when(-1, 0), -1);
        TruthBridge none = new TruthBridge();
        Check.saying(none, "not a");
        Check.due("without a land", none.when(0, 0), -1);
    }

    private static void whensLater() {
        TruthBridge b = Check.bridge("facts 1 0;turn 0 5;turn 0 9;turn 0 99", "a", "not a");
        for (int i = 0; i < 6; i++) {
            b.midnight();
        }
        Check.due("from now on", b.when(0, 0), 6);
        Check.due("the other way", b.when(1, 3), 9);
        Check.due("later", b.when(0, 9), 99);
        Check.due("nothing changed", b.count(8), 6);
        for (int i = 0; i < 4; i++) {
            b.midnight();
        }
        Check.due("the last turn", b.when(0, 10), 99);
        TruthBridge c = Check.bridge("facts 1 0;turn 0 99", "a");
        Check.due("99 is the last of 100 days from 0", c.when(0, 0), 99);
        TruthBridge e = Check.bridge("facts 1 0;turn 0 1", "a", "not a");
        Check.due("turned on the next day", e.when(0, 5), 5);
        Check.due("from the next day", e.when(0, 1), 1);
        Check.due("not any more", e.when(1, 1), -2);
        Check.due("today still", e.when(1, 0), 0);
        TruthBridge d = Check.bridge("facts 2 0;turn 0 99;turn 1 98", "a", "b and not a");
        Check.due("one day only", d.when(1, 0), 98);
        Check.due("from day 99", d.when(1, 99), -2);
    }
}
