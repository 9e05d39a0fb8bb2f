/** Promises 7 to 16 and 36: what is told of people, facts, places, ways, worlds and sayings; counts. */
final class StateTest {
    public static void main(String[] args) {
        people();
        factsAndPlaces();
        ways();
        truthAndKnowledge();
        eightFacts();
        landsOfEachSize();
        shownHigh();
        withoutLand();
        counts();
        Check.finish("StateTest");
    }

    private static void people() {
        TruthBridge b = Check.bridge("facts 3 5;person 0 1 0 0;person 1 128 5 99;place 2", "a and not b and c", "b");
        int[] zero = {0, 1, 0, 0, 0, 8, 0};
        int[] one = {1, 128, 99, 0, 0, 2, 5};
        for (int what = 0; what < 7; what++) {
            Check.due("person(0, " + what + ")", b.person(0, what), zero[what]);
            Check.due("person(1, " + what + ")", b.person(1, what), one[what]);
        }
        Check.due("person(0, 7)", b.person(0, 7), -1);
        Check.due("person(0, -1)", b.person(0, -1), -1);
        Check.due("person(2, 0)", b.person(2, 0), -1);
        Check.due("person(-1, 0)", b.person(-1, 0), -1);
        Check.due("person(least, 0)", b.person(Integer.MIN_VALUE, 0), -1);
        Check.due("falls", b.cross(0, 1), 0);
        Check.due("fell", b.person(0, 4), 1);
        Check.due("looks", b.look(1, 0), 1);
        Check.due("no hours at the bridge", b.person(1, 3), 0);
    }

    private static void factsAndPlaces() {
        TruthBridge b = Check.bridge("facts 3 5;place 2;place 0;place 2");
        int[] facts = {1, 0, 1, -1};
        int[] places = {2, 0, 2, -1};
        for (int i = 0; i < 4; i++) {
            Check.due("fact(" + i + ")", b.fact(i), facts[i]);
            Check.due("place(" + i + ")", b.place(i), places[i]);
        }
        Check.due("fact(-1)", b.fact(-1), -1);
        Check.due("fact(33)", b.fact(33), -1);
        Check.due("place(-1)", b.place(-1), -1);
        Check.due("place(greatest)", b.place(Integer.MAX_VALUE), -1);
    }

    private static void ways() {
        TruthBridge b = Check.bridge("facts 1 1;place 0;place 0;place 0;place 0;place 0;path 0 1 9;path 0 1 7;path 1 2 2;"
                + "path 2 0 3;path 2 3 9");
        int[][] want = {{0, 5, 3, 12, -2}, {5, 0, 2, 11, -2}, {3, 2, 0, 9, -2}, {12, 11, 9, 0, -2}, {-2, -2, -2, -2, 0}};
        for (int i = 0; i < 5; i++) {
            for (int j = 0; j < 5; j++) {
                Check.due("way(" + i + ", " + j + ")", b.way(i, j), want[i][j]);
            }
            Check.due("way(" + i + ", 5)", b.way(i, 5), -1);
            Check.due("way(-1, " + i + ")", b.way(-1, i), -1);
        }
        TruthBridge by = Check.bridge("facts 1 1;place 0;place 0;place 0;path 0 1 4;path 0 2 5");
        Check.due("a way by the bridge", by.way(1, 2), 9);
        TruthBridge row = Check.bridge("facts 1 1;place 0;place 0;place 0;place 0;place 0;place 0;path 4 5 9;path 3 4 9;"
                + "path 2 3 9;path 1 2 9;path 0 1 9");
        Check.due("the longest way", row.way(0, 5), 45);
        Check.due("and back", row.way(5, 0), 45);
    }

    private static void truthAndKnowledge() {
        TruthBridge b = Check.bridge("facts 2 1;person 0 1 1 0;person 0 1 0 0", "a", "b", "a or b", "a and b", "a or not a");
        int[] isTrue = {1, 0, 1, 0, 1, -1};
        int[] known = {1, 0, 1, 0, 1, -2};
        int[] bridge = {0, 0, 0, 0, 1, -2};
        int[] gain = {2, 2, 1, 3, 0, -1};
        int[] shown = {0, 0, 0, 0, -2, -1};
        for (int s = 0; s < 6; s++) {
            Check.due("isTrue(" + s + ")", b.isTrue(s), isTrue[s]);
            Check.due("knows(0, " + s + ")", b.knows(0, s), known[s]);
            Check.due("knows(1, " + s + ")", b.knows(1, s), bridge[s]);
            Check.due("knows(-1, " + s + ")", b.knows(-1, s), bridge[s]);
            Check.due("knows(-2, " + s + ")", b.knows(-2, s), -2);
            Check.due("knows(2, " + s + ")", b.knows(2, s), -2);
            Check.due("gain(" + s + ")", b.gain(s), gain[s]);
            Check.due("shown(" + s + ")", b.shown(s), shown[s]);
        }
        Check.due("isTrue(-1)", b.isTrue(-1), -1);
        Check.due("knows(0, -1)", b.knows(0, -1), -2);
        Check.due("gain(-1)", b.gain(-1), -1);
        Check.due("shown(-1)", b.shown(-1), -1);
        int[] held = {0, 1, 0, 1, -2};
        for (int w = 0; w < 5; w++) {
            Check.due("possible(0, " + w + ")", b.possible(0, w), held[w]);
            Check.due("possible(-1, " + w + ")", b.possible(-1, w), w < 4 ? 1 : -2);
            Check.due("possible(2, " + w + ")", b.possible(2, w), -2);
        }
        Check.due("possible(0, -1)", b.possible(0, -1), -2);
        Check.due("possible(-2, 0)", b.possible(-2, 0), -2);
        b.cross(0, 0);
        Check.due("the bridge knows a then", b.knows(-1, 0), 1);
        Check.due("the gain of a then", b.gain(0), 0);
        Check.due("shown of a then", b.shown(0), -2);
        Check.due("shown of b then", b.shown(1), 1);
        Check.due("possible 0 then", b.possible(-1, 0), 0);
    }

    private static void eightFacts() {
        TruthBridge b = Check.bridge("facts 8 192;person 0 1 192 0;person 0 1 64 0;person 0 1 128 0;person 0 1 255 0", "g", "h",
                "g and h", "not g", "not h", "not g or not h");
        int[] size = {64, 128, 128, 1};
        int[] facts = {192, 64, 128, 255};
        for (int p = 0; p < 4; p++) {
            Check.due("worlds of " + p, b.person(p, 5), size[p]);
            Check.due("facts of " + p, b.person(p, 6), facts[p]);
        }
        int[] gain = {128, 128, 192, 128, 128, 64};
        int[] shown = {0, 0, 0, 64, 128, 192};
        for (int s = 0; s < 6; s++) {
            Check.due("gain of " + s, b.gain(s), gain[s]);
            Check.due("shown of " + s, b.shown(s), shown[s]);
            for (int w = 0; w < 256; w += 5) {
                int g = w >> 6 & 1;
                int h = w >> 7 & 1;
                int[] so = {g, h, g & h, 1 - g, 1 - h, 1 - (g & h)};
                Check.due("so(" + s + ", " + w + ")", b.so(s, w), so[s]);
            }
        }
        eachOf256Worlds();
        Check.due("possible(0, 191)", b.possible(0, 191), 0);
        Check.due("possible(0, 192)", b.possible(0, 192), 1);
        Check.due("possible(1, 255)", b.possible(1, 255), 1);
        Check.due("possible(1, 128)", b.possible(1, 128), 0);
        Check.due("possible(3, 192)", b.possible(3, 192), 1);
        Check.due("possible(3, 193)", b.possible(3, 193), 0);
        Check.due("possible(3, 256)", b.possible(3, 256), -2);
    }

    private static void eachOf256Worlds() {
        Story story = new Story("facts 8 192", "g", "g and h", "not g or not h");
        for (int i = 0; i < 256; i++) {
            int w = i;
            story.asked("so(0, " + w + ")", b -> b.so(0, w), w >> 6 & 1);
            story.asked("so(1, " + w + ")", b -> b.so(1, w), w >= 192 ? 1 : 0);
            story.asked("so(2, " + w + ")", b -> b.so(2, w), w >= 192 ? 0 : 1);
        }
    }

    private static void landsOfEachSize() {
        for (int facts = 1; facts <= 8; facts++) {
            int all = (1 << facts) - 1;
            TruthBridge b = Check.bridge("facts " + facts + " 0;person 0 1 0 0;person 0 1 " + all + " 0", "a or not a", "a");
            Check.due("worlds of " + facts, b.count(9), 1 << facts);
            Check.due("worlds of who knows nothing", b.person(0, 5), 1 << facts);
            Check.due("worlds of who knows all", b.person(1, 5), 1);
            Check.due("facts of who knows all", b.person(1, 6), all);
            Check.due("the last world", b.possible(-1, all), 1);
            Check.due("one more", b.possible(-1, all + 1), -2);
            Check.due("gain of a", b.gain(1), 1 << facts - 1);
            Check.due("what must be is known", b.knows(-1, 0), 1);
        }
    }

    private static void shownHigh() {
        TruthBridge b = Check.bridge("facts 8 0", "not g or not a", "not h or not b or g", "not g or not h or not c", "not a",
                "not f or not e");
        int[] shown = {65, 130, 196, 1, 48};
        for (int s = 0; s < 5; s++) {
            Check.due("shown high of " + s, b.shown(s), shown[s]);
        }
    }

    private static void withoutLand() {
        TruthBridge b = new TruthBridge();
        Check.saying(b, "a");
        Check.saying(b, "not a");
        Check.due("so", b.so(0, 0), -1);
        Check.due("isTrue", b.isTrue(1), -1);
        Check.due("knows", b.knows(-1, 0), -2);
        Check.due("possible", b.possible(-1, 0), -2);
        Check.due("gain", b.gain(0), -1);
        Check.due("shown", b.shown(0), -1);
        Check.due("person", b.person(0, 0), -1);
        Check.due("fact", b.fact(0), -1);
        Check.due("place", b.place(0), -1);
        Check.due("way", b.way(0, 0), -1);
        Check.due("count(6)", b.count(6), 2);
        Check.due("count(8)", b.count(8), 0);
        Check.due("count(9)", b.count(9), -1);
    }

    private static void counts() {
        TruthBridge b = Check.bridge("facts 3 6;person 0 1 0 0;place 0;place 1;path 0 1 1;turn 0 1;turn 1 1", "b", "c");
        Check.rule(b, "say 1");
        b.seed(5);
        b.trial(0, true);
        b.trial(0, true);
        b.trial(0, true);
        b.cross(0, 0);
        b.midnight();
        b.feed(0, 0, 0, 0, 0);
        int[] want = {3, 5, 1, 2, 1, 2, 2, 1, 1, 8, 3, 2, 5, 20};
        for (int i = 0; i < want.length; i++) {
            Check.due("count(" + i + ")", b.count(i), want[i]);
        }
        Check.due("count(14)", b.count(14), -1);
        Check.due("count(-1)", b.count(-1), -1);
        Check.due("count(least)", b.count(Integer.MIN_VALUE), -1);
    }
}
