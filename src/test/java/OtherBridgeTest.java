/** Promises 31 to 33: trial, sets, next. */
final class OtherBridgeTest {
    public static void main(String[] args) {
        trials();
        sets();
        contradictions();
        firstEight();
        next();
        Check.finish("OtherBridgeTest");
    }

    private static void trials() {
        TruthBridge b = new TruthBridge();
        Check.saying(b, "a");
        Check.due("none, without a land", b.trial(-1, false), 0);
        Check.due("one, without a land", b.trial(0, true), -2);
        Check.land(b, "facts 1 0");
        Check.due("no such saying", b.trial(1, true), -2);
        Check.due("saying -2", b.trial(-2, true), -2);
        for (int i = 1; i <= 10; i++) {
            Check.due("trial", b.trial(0, true), i);
        }
        Check.due("an 11th", b.trial(0, true), -2);
        Check.due("ten", b.count(10), 10);
        Check.due("no act", b.count(11), 0);
        Check.due("it can't be undone", b.undo(), -2);
        Check.due("there are none then", b.trial(-1, true), 0);
        Check.due("none", b.count(10), 0);
        Check.due("a first", b.trial(0, false), 1);
        Check.due("it counts as not fallen", b.sets(0), 1);
        Check.due("so it was not told", b.sets(2), 1);
    }

    private static void due(TruthBridge b, String when, int many, int all, int none) {
        Check.due(when + ": how many", b.sets(0), many);
        Check.due(when + ": in all", b.sets(1), all);
        Check.due(when + ": in none", b.sets(2), none);
    }

    private static void sets() {
        TruthBridge b = Check.bridge("facts 2 0", "a", "b", "a and b");
        due(b, "at first", 8, 0, 0);
        b.trial(0, false);
        due(b, "a bore", 2, 0, 5);
        b.trial(1, true);
        due(b, "by b one fell", 1, 2, 5);
        b.trial(2, true);
        due(b, "that can't be", 0, 0, 0);
        b.trial(-1, false);
        b.trial(2, true);
        due(b, "a and b was known", 5, 0, 0);
        Check.due("sets(3)", b.sets(3), -1);
        Check.due("sets(-1)", b.sets(-1), -1);
        Check.due("without a land", new TruthBridge().sets(0), -1);
        TruthBridge none = Check.bridge("facts 2 0");
        due(none, "without sayings", 1, 0, 0);
        Check.due("facts are not asked", Check.bridge("facts 1 0", "a").sets(0), 2);
    }

    private static void contradictions() {
        TruthBridge b = Check.bridge("facts 2 0", "a", "not a", "b");
        b.trial(2, true);
        due(b, "b follows from what can't be, too", 5, 0, 0);
        b.trial(0, false);
        due(b, "by a one did not fall", 2, 4, 1);
        TruthBridge c = Check.bridge("facts 2 0", "a", "a or not a");
        c.trial(1, false);
        due(c, "what must be is always known", 0, 0, 0);
    }

    private static void firstEight() {
        TruthBridge b = Check.bridge("facts 8 0", "a", "b", "c", "d", "e", "f", "g", "h", "a", "b and c");
        due(b, "the first eight alone", 256, 0, 0);
        b.trial(9, true);
        due(b, "a trial by a later one", 64, 6, 0);
        b.trial(8, false);
        due(b, "and by another", 32, 6, 1);
        Check.saying(b, "d");
        due(b, "a saying more", 32, 6, 1);
        TruthBridge c = Check.bridge("facts 2 0", "a");
        c.trial(0, true);
        due(c, "one saying", 1, 1, 0);
        Check.saying(c, "b");
        due(c, "two sayings", 2, 1, 0);
    }

    private static void next() {
        TruthBridge b = Check.bridge("facts 3 0", "a", "b", "c", "a and b");
        Check.due("c is in half of all sets", b.next(0), 2);
        Check.due("the greater part", b.next(1), 8);
        b.trial(2, true);
        Check.due("then a and b: it follows in 5 of 8", b.next(0), 3);
        Check.due("the greater part then", b.next(1), 5);
        b.trial(3, false);
        Check.due("then a", b.next(0), 0);
        Check.due("of three two", b.next(1), 2);
        b.trial(3, true);
        Check.due("no set", b.next(0), -2);
        Check.due("no set, how many", b.next(1), -2);
        Check.due("next(2)", b.next(2), -1);
        Check.due("next(-1)", b.next(-1), -1);
        Check.due("without a land", new TruthBridge().next(0), -1);
        TruthBridge none = Check.bridge("facts 3 0");
        Check.due("no saying", none.next(0), -2);
        Check.due("no saying, how many", none.next(1), -2);
        TruthBridge late = Check.bridge("facts 3 0", "a or not a", "a or not a", "a", "a or not a", "a or not a", "a or not a",
                "a or not a", "b", "a or b", "a and b");
        Check.due("two sayings part in halves", late.next(0), 2);
        Check.due("halves", late.next(1), 128);
        late.trial(2, false);
        Check.due("the seventh", late.next(0), 7);
        TruthBridge beyond = Check.bridge("facts 2 0", "a", "a", "b", "b", "a", "a", "b", "b", "a and b", "a or b");
        Check.due("only the ninth parts well", beyond.next(0), 8);
        Check.due("in 225 sets it follows, in 31 not", beyond.next(1), 225);
    }
}
