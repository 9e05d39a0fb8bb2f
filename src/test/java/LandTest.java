/** Promise 4: land, and the FAULTS of its text. */
final class LandTest {
    private static final String FULL = "facts 8 170;person 0 1 0 0;person 1 128 255 99;person 0 2 3 4;person 1 5 6 7;"
            + "person 0 8 9 10;person 1 11 12 13;place 0;place 1;place 2;place 3;place 4;place 7;path 0 1 1;path 1 2 9;"
            + "path 2 3 2;path 3 4 3;path 4 5 4;path 0 1 5;path 0 2 6;path 0 3 7;path 0 4 8;path 0 5 9;turn 0 1;"
            + "turn 7 99;turn 0 1;turn 1 2;turn 2 3;turn 3 4;turn 4 5;turn 5 6";

    public static void main(String[] args) {
        rightOnes();
        wrongWordsAndBytes();
        wrongNumbers();
        tooMany();
        whatStays();
        Check.finish("LandTest");
    }

    private static void due(String text, int want) {
        Check.due("land " + text, Check.land(new TruthBridge(), text), want);
    }

    private static void rightOnes() {
        due("facts 1 0", 0);
        due("  facts  1  0  ", 0);
        due("facts1 0", 0);
        due("facts 00008 00255", 0);
        due("facts 2 3;person 1 128 3 99 ; person 0 1 0 0", 2);
        due("facts 2 3;place 1;place1;path0 1 9;path 1 0 1;path 1 0 1", 0);
        due("facts 2 3;turn 1 99;turn 1 99;turn 0 1", 0);
        due(FULL, 6);
        due(FULL + " ".repeat(400 - FULL.length()), 6);
        TruthBridge b = Check.bridge(FULL);
        int[] want = {8, 170, 6, 6, 10, 8, 0, 0, 0, 256, 0, 0, 0, 0};
        for (int i = 0; i < want.length; i++) {
            Check.due("full land: count(" + i + ")", b.count(i), want[i]);
        }
    }

    private static void wrongWordsAndBytes() {
        due("", Check.fault(0, 0));
        due("   ", Check.fault(3, 0));
        due(";", Check.fault(0, 0));
        due("7", Check.fault(0, 0));
        due("fact 1 0", Check.fault(0, 0));
        due("factss 1 0", Check.fault(0, 0));
        due(" Facts 1 0", Check.fault(1, 0));
        due("facts", Check.fault(5, 0));
        due("facts 1", Check.fault(7, 0));
        due("facts 1  ", Check.fault(9, 0));
        due("facts one 0", Check.fault(6, 0));
        due("facts 1 x", Check.fault(8, 0));
        due("facts 1 0 0", Check.fault(10, 0));
        due("facts 1 0,", Check.fault(9, 0));
        due("facts 1 0;", Check.fault(10, 0));
        due("facts 1 0; ", Check.fault(11, 0));
        due("facts 1 0;;", Check.fault(10, 0));
        due("facts 1 0;saying", Check.fault(10, 0));
        due("facts 1 0;person 0 1 0", Check.fault(22, 0));
        due("facts 1 0;person 0 1 0;", Check.fault(22, 0));
        due("facts 1 -0", Check.fault(8, 0));
        due("facts 1\u00000", Check.fault(7, 0));
        due("facts 1 0\u00ff", Check.fault(9, 0));
        due("facts 1 0<=", Check.fault(9, 0));
    }

    private static void wrongNumbers() {
        due("facts 0 0", Check.fault(6, 1));
        due("facts 9 0", Check.fault(6, 1));
        due("facts 21", Check.fault(6, 1));
        due("facts 000001 0", Check.fault(6, 1));
        due("facts 1 2", Check.fault(8, 1));
        due("facts 8 256", Check.fault(8, 1));
        due("facts 8 99999999999999999999", Check.fault(8, 1));
        due("facts 2 3;person 2 1 0 0", Check.fault(17, 1));
        due("facts 2 3;person 0 0 0 0", Check.fault(19, 1));
        due("facts 2 3;person 0 129 0 0", Check.fault(19, 1));
        due("facts 2 3;person 0 1 4 0", Check.fault(21, 1));
        due("facts 2 3;person 0 1 3 100", Check.fault(23, 1));
        due("facts 2 3;place 2", Check.fault(16, 1));
        due("facts 2 3;path 0 0 1", Check.fault(15, 1));
        due("facts 2 3;place 0;path 0 0 1", Check.fault(25, 1));
        due("facts 2 3;place 0;path 0 1 1", Check.fault(25, 1));
        due("facts 2 3;place 0;place 0;path 2 0 1", Check.fault(31, 1));
        due("facts 2 3;place 0;place 0;path 1 01 1", Check.fault(33, 1));
        due("facts 2 3;place 0;place 0;path 1 1", Check.fault(33, 1));
        due("facts 2 3;place 0;place 0;path 0 1 0", Check.fault(35, 1));
        due("facts 2 3;place 0;place 0;path 0 1 10", Check.fault(35, 1));
        due("facts 2 3;path 0 1 1;place 0;place 0", Check.fault(15, 1));
        due("facts 2 3;turn 2 1", Check.fault(15, 1));
        due("facts 2 3;turn 1 0", Check.fault(17, 1));
        due("facts 2 3;turn 1 100", Check.fault(17, 1));
    }

    private static void tooMany() {
        String facts = "facts 1 0;";
        due("place 0;facts 1 0", Check.fault(0, 4));
        due("turn 0 0", Check.fault(0, 4));
        due(facts + "facts 1 0", Check.fault(10, 4));
        due(facts + "facts", Check.fault(10, 4));
        due(facts + "person 0 1 0 0;".repeat(6) + " person 9", Check.fault(10 + 15 * 6 + 1, 4));
        due(facts + "place 0;".repeat(6) + "place 0", Check.fault(10 + 8 * 6, 4));
        due(facts + "place 0;place 0;" + "path 0 1 1;".repeat(10) + "path 0 1 1", Check.fault(26 + 11 * 10, 4));
        due(facts + "turn 0 1;".repeat(8) + "turn 0 1", Check.fault(10 + 9 * 8, 4));
        due(facts + "turn 0 1;".repeat(8) + "tern 0 1", Check.fault(10 + 9 * 8, 0));
        due(FULL + ";person 0 1 0 0", Check.fault(FULL.length() + 1, 4));
    }

    private static void whatStays() {
        TruthBridge b = Check.bridge("facts 2 1;person 0 1 1 0;turn 0 1", "a", "b");
        Check.due("rule", Check.rule(b, "say 1"), 0);
        b.seed(77);
        b.cross(0, 0);
        b.midnight();
        b.trial(1, true);
        b.image(1);
        Check.due("wrong land", Check.land(b, "facts 3"), Check.fault(7, 0));
        Check.due("tape", b.count(13), 0);
        Check.due("facts stay", b.count(0), 2);
        Check.due("day stays", b.count(8), 1);
        Check.due("trials stay", b.count(10), 1);
        Check.due("acts stay", b.count(11), 2);
        Check.due("x stays", b.count(12), 77);
        Check.due("right land", Check.land(b, "facts 3 7;person 1 3 0 0;person 1 3 7 0"), 2);
        int[] want = {3, 7, 2, 0, 0, 0, 2, 1, 0, 8, 0, 0, 77, 0};
        for (int i = 0; i < want.length; i++) {
            Check.due("new land: count(" + i + ")", b.count(i), want[i]);
        }
        Check.due("side", b.person(0, 0), 1);
        Check.due("worlds of who knows all", b.person(1, 5), 1);
        Check.due("undo", b.undo(), -2);
        Check.due("the image stays", b.back(1), 1);
        Check.due("its facts", b.count(0), 2);
    }
}
