/** Promises 37 and 38: image, back. */
final class ImageTest {
    public static void main(String[] args) {
        wrongOnes();
        allIsAsItWas();
        whatCanBeUndone();
        whatStoodBefore();
        nothingTold();
        fourOfThem();
        Check.finish("ImageTest");
    }

    private static void wrongOnes() {
        TruthBridge b = Check.bridge("facts 1 1");
        Check.due("image(4)", b.image(4), -1);
        Check.due("image(-1)", b.image(-1), -1);
        for (int k = -1; k <= 4; k++) {
            Check.due("back(" + k + ")", b.back(k), -1);
        }
        Check.due("nothing happened", b.count(0), 1);
    }

    private static void allIsAsItWas() {
        TruthBridge b = Check.bridge("facts 2 3;person 0 1 1 0;person 0 1 0 0;place 0;place 1;path 0 1 3;turn 0 2", "a", "b",
                "not b");
        Check.rule(b, "say 1");
        b.seed(11);
        b.trial(0, true);
        b.cross(0, 0);
        b.look(1, 1);
        b.midnight();
        b.look(1, 1);
        b.cross(0, 2);
        Check.due("image", b.image(2), 1);
        b.midnight();
        b.cross(1, 1);
        b.trial(1, false);
        b.seed(12);
        Check.saying(b, "c");
        Check.rule(b, "say 2");
        Check.land(b, "facts 5 0;person 1 9 0 0");
        b.feed(0, 0, 0, 0, 0);
        Check.due("back", b.back(2), 1);
        int[] want = {2, 3, 2, 2, 1, 1, 4, 2, 1, 2, 1, 5, 11, 20};
        for (int i = 0; i < want.length; i++) {
            Check.due("then count(" + i + ")", b.count(i), want[i]);
        }
        int[] zero = {1, 1, 0, 0, 1, 2, 1};
        int[] one = {0, 1, 0, 6, 0, 2, 2};
        for (int what = 0; what < 7; what++) {
            Check.due("then person(0, " + what + ")", b.person(0, what), zero[what]);
            Check.due("then person(1, " + what + ")", b.person(1, what), one[what]);
        }
        Check.due("the way", b.way(0, 1), 3);
        Check.due("the trial: by a one fell", b.sets(1), 0);
        Check.due("the turn", b.when(3, 0), -2);
        Check.due("the other saying still turns", b.midnight(), 2);
        Check.due("a is not so", b.fact(0), 0);
        Check.due("back once more", b.back(2), 1);
        Check.due("a is so", b.fact(0), 1);
    }

    private static void whatCanBeUndone() {
        TruthBridge b = Check.bridge("facts 2 3;person 0 1 1 0", "a");
        b.midnight();
        b.cross(0, 0);
        b.image(0);
        b.undo();
        b.undo();
        b.midnight();
        b.midnight();
        b.midnight();
        Check.due("other acts", b.count(11), 3);
        Check.due("back", b.back(0), 1);
        Check.due("acts", b.count(11), 2);
        Check.due("undo", b.undo(), 1);
        Check.due("not over", b.person(0, 0), 0);
        Check.due("undo", b.undo(), 0);
        Check.due("day", b.count(8), 0);
        Check.due("back again", b.back(0), 1);
        Check.due("acts again", b.count(11), 2);
        for (int i = 0; i < 25; i++) {
            b.midnight();
        }
        b.image(1);
        for (int i = 0; i < 20; i++) {
            b.undo();
        }
        Check.due("all undone", b.count(8), 6);
        Check.due("the image has all", b.back(1), 26);
        for (int i = 19; i >= 0; i--) {
            Check.due("undo", b.undo(), i);
            Check.due("day", b.count(8), i + 6);
        }
    }

    /** Other acts and trials stand in the same places meanwhile. */
    private static void whatStoodBefore() {
        TruthBridge b = Check.bridge("facts 2 3;person 0 1 1 0;place 0;place 1;path 0 1 2", "a", "b", "not a");
        b.midnight();
        b.midnight();
        b.trial(0, true);
        b.trial(1, false);
        b.image(0);
        b.undo();
        b.undo();
        b.look(0, 1);
        b.cross(0, 2);
        b.trial(-1, false);
        b.trial(0, false);
        b.trial(1, true);
        b.trial(2, false);
        Check.due("sets with b, without a and not a", b.sets(0), 1);
        b.image(1);
        Check.due("back", b.back(0), 2);
        Check.due("trials", b.count(10), 2);
        Check.due("sets with a, without b and not a", b.sets(0), 1);
        Check.due("a", b.sets(1), 1);
        Check.due("neither b nor not a", b.sets(2), 6);
        Check.due("undo", b.undo(), 1);
        Check.due("day 1", b.count(8), 1);
        Check.due("nobody went", b.person(0, 3), 0);
        Check.due("undo", b.undo(), 0);
        Check.due("day 0", b.count(8), 0);
        Check.due("forth", b.back(1), 0);
        Check.due("b", b.sets(1), 2);
        Check.due("undo the fall", b.undo(), 1);
        Check.due("the look stands", b.person(0, 3), 4);
        Check.due("undo the look", b.undo(), 0);
        Check.due("no hours", b.person(0, 3), 0);
        Check.land(b, "facts 4 9;person 1 1 1 0");
        b.cross(0, 0);
        b.cross(0, 0);
        b.cross(0, 0);
        Check.due("back to the other land", b.back(0), 2);
        Check.due("undo there", b.undo(), 1);
        Check.due("undo all there", b.undo(), 0);
        Check.due("its first day", b.count(8), 0);
        Check.due("its facts", b.count(1), 3);
        Check.due("its worlds", b.count(9), 4);
        Check.due("its people", b.person(0, 0), 0);
    }

    private static void nothingTold() {
        TruthBridge b = new TruthBridge();
        Check.due("image of nothing", b.image(3), 0);
        Check.land(b, "facts 1 1;person 0 1 0 0");
        b.midnight();
        b.seed(3);
        Check.due("back to nothing", b.back(3), 0);
        int[] want = {0, 0, 0, 0, 0, 0, 0, 0, 0, -1, 0, 0, 0, 0};
        for (int i = 0; i < want.length; i++) {
            Check.due("nothing: count(" + i + ")", b.count(i), want[i]);
        }
        Check.due("midnight", b.midnight(), -1);
        Check.due("undo", b.undo(), -2);
    }

    private static void fourOfThem() {
        TruthBridge b = Check.bridge("facts 1 1");
        for (int k = 0; k < 4; k++) {
            b.midnight();
            Check.due("image " + k, b.image(k), k + 1);
        }
        for (int k = 3; k >= 0; k--) {
            Check.due("back " + k, b.back(k), k + 1);
            Check.due("acts of " + k, b.count(11), k + 1);
        }
        Check.due("made anew", b.image(3), 1);
        b.midnight();
        Check.due("the new one", b.back(3), 1);
        Check.due("another one stays", b.back(2), 3);
    }
}
