/** Terms, III: what is asked changes nothing; the bounds of what FOLLOWS, of DAYS, PLANS, WALKS, coins, SETS, DRAWS and IMAGES. */
final class AskEdgeTest {
    private static final String ALL = "a and b and c and d and e and f and g and h";

    public static void main(String[] args) throws ReflectiveOperationException {
        Check.cases(AskEdgeTest.class);
    }

    static void termAskedNothingChanges() {
        Story story = new Story("facts 3 5;person 0 2 5 7;person 1 1 2 0;person 0 1 0 99;place 1;place 2;place 0;path 0 1 3;"
                + "turn 0 2", "a", "not b", "c and not b", "a or b", "b");
        story.due("cross", b -> b.cross(2, 3), 3);
        story.due("trial", b -> b.trial(3, true), 1);
        story.due("seed", b -> b.seed(2147483647), 0);
        story.idle("person", b -> b.person(0, 5), 2);
        story.idle("fact", b -> b.fact(0), 1);
        story.idle("place", b -> b.place(1), 2);
        story.idle("way", b -> b.way(0, 1), 3);
        story.idle("so", b -> b.so(2, 4), 1);
        story.idle("isTrue", b -> b.isTrue(2), 1);
        story.idle("knows", b -> b.knows(-1, 3), 1);
        story.idle("possible", b -> b.possible(-1, 4), 0);
        story.idle("gain", b -> b.gain(0), 2);
        story.idle("shown", b -> b.shown(0), 2);
        story.idle("follows", b -> b.follows(4, 1), 1);
        story.idle("fewest", b -> b.fewest(31, 1), 2);
        story.idle("opposite", b -> b.opposite(1, 4), 1);
        story.idle("when", b -> b.when(0, 9999), -2);
        story.idle("least", b -> b.least(0, 0), 0);
        story.idle("plan", b -> b.plan(0, 2), 0);
        story.idle("walk", b -> b.walk(2, 1), 1);
        story.idle("bought", b -> b.bought(2, 1), 2);
        story.idle("sets", b -> b.sets(0), 28);
        story.idle("next", b -> b.next(0), 4);
        story.idle("years", b -> b.years(10, 60, 1), 1785);
        story.idle("count", b -> b.count(12), 2147483647);
    }

    static void termShownTheLeastWorld() {
        Story story = new Story("facts 8 255;person 0 1 0 0", "not [" + ALL + "]", ALL, "not h", "not g or not a", "h",
                "a or not a", "h or " + ALL.substring(0, ALL.length() - 6), "not h or g");
        story.each("shown", TruthBridge::shown, 255, 0, 128, 65, 0, -2, 0, 128);
        story.due("h is told", b -> b.cross(0, 4), 3);
        story.each("then shown", TruthBridge::shown, 255, 128, 128, 193, -2, -2, -2, 128);
        story.due("all is told", b -> b.cross(0, 1), 3);
        story.each("at last shown", TruthBridge::shown, 255, -2, 255, 255, -2, -2, -2, -2);
    }

    static void termShownInEachPartOfTheWorlds() {
        for (int world : new int[] {1, 2, 62, 63, 64, 65, 126, 127, 128, 129, 190, 191, 192, 193, 254, 255}) {
            StringBuilder not = new StringBuilder("not [");
            for (int fact = 0; fact < 8; fact++) {
                not.append(fact > 0 ? " and " : "").append((world >> fact & 1) == 1 ? "" : "not ").append((char) ('a' + fact));
            }
            Story story = new Story("facts 8 0", not + "]");
            story.idle("in WORLD " + world + " alone it is not so", b -> b.shown(0), world);
            story.idle("GAIN", b -> b.gain(0), 1);
        }
    }

    static void termFollowsFromNoSayings() {
        Story story = new Story("facts 2 0", "a", "a or not a", "not c", "c");
        story.each("follows(0, .)", (b, s) -> b.follows(0, s), 0, 1, 1, 0);
        story.each("fewest(0, .)", (b, s) -> b.fewest(0, s), -2, 0, 0, -2);
    }

    static void termFollowsFromWhatCannotBe() {
        Story story = new Story("facts 2 0", "a", "not a", "b", "c");
        story.each("from a, not a: follows(3, .)", (b, s) -> b.follows(3, s), 1, 1, 1, 1);
        story.each("from c: follows(8, .)", (b, s) -> b.follows(8, s), 1, 1, 1, 1);
        story.idle("b from a alone", b -> b.follows(1, 2), 0);
        story.idle("fewest: c alone", b -> b.fewest(15, 2), 4);
        story.idle("fewest: both", b -> b.fewest(3, 2), 3);
        story.idle("fewest: c", b -> b.fewest(11, 2), 8);
    }

    static void termFollowsWhateverTheBridgeKnowsAndTheFactsAre() {
        Story story = new Story("facts 2 0;person 0 1 0 0", "a", "not a or b", "b", "not b");
        story.idle("b from a and if a then b", b -> b.follows(3, 2), 1);
        story.due("the bridge is told not b", b -> b.cross(0, 3), 3);
        story.idle("b from a and if a then b", b -> b.follows(3, 2), 1);
        story.idle("not b from nothing", b -> b.follows(0, 3), 0);
        story.idle("not b from a", b -> b.follows(1, 3), 0);
    }

    private static Story eachLetterTwelveMore() {
        Story story = new Story("facts 8 0");
        for (int i = 0; i < 24; i++) {
            story.saying(i == 23 ? ALL : "" + (char) ('a' + i % 8), i);
        }
        return story;
    }

    static void termFewestOf12SayingsAtMost() {
        Story story = eachLetterTwelveMore();
        story.idle("11", b -> b.fewest(0x7FF, 23), 0xFF);
        story.idle("12", b -> b.fewest(0xFFF, 23), 0xFF);
        story.idle("13", b -> b.fewest(0x1FFF, 23), -1);
        story.idle("24", b -> b.fewest(0xFFFFFF, 23), -1);
        story.idle("12 others", b -> b.fewest(0x7FF800, 23), 0x7F800);
        story.idle("13 others", b -> b.fewest(0x7FFC00, 23), -1);
        story.idle("it FOLLOWS from 24", b -> b.follows(0xFFFFFF, 23), 1);
        story.idle("not from 12 without an a", b -> b.fewest(0x3EFE, 23), -2);
    }

    static void termFewestOfSeveralTheLeastAsBits() {
        Story story = new Story("facts 3 0", "a", "a", "b", "b", "a and b", "c", "a and b and c");
        story.idle("one of two", b -> b.fewest(3, 0), 1);
        story.idle("the greater alone", b -> b.fewest(2, 0), 2);
        story.idle("one is fewer than two", b -> b.fewest(31, 4), 16);
        story.idle("two of four", b -> b.fewest(15, 4), 5);
        story.idle("without the first", b -> b.fewest(14, 4), 6);
        story.idle("two of five", b -> b.fewest(63, 6), 48);
        story.idle("three of four", b -> b.fewest(47, 6), 37);
        story.idle("itself", b -> b.fewest(127, 6), 64);
        Story outside = new Story("facts 2 0", "a and b", "a", "b", "a and b", "a or not a");
        outside.idle("not one that isn't in the set", b -> b.fewest(6, 0), 6);
        outside.idle("nor itself", b -> b.fewest(14, 0), 8);
        outside.idle("none is needed", b -> b.fewest(14, 4), 0);
    }

    static void termOppositeInNoWorldOfTheLand() {
        Story story = new Story("facts 2 3;person 0 1 0 0", "a", "not a", "a and b", "not a or not b", "c", "not c", "a or b",
                "d and not d");
        int[][] opposite = {{0, 1}, {1, 0}, {2, 3}, {0, 4}, {4, 5}, {4, 6}, {7, 0}, {7, 4}};
        for (int[] two : opposite) {
            story.idle(two[0] + ", " + two[1], b -> b.opposite(two[0], two[1]), 1);
        }
        int[][] not = {{0, 2}, {0, 3}, {1, 3}, {0, 5}, {6, 1}, {6, 3}};
        for (int[] two : not) {
            story.idle(two[0] + ", " + two[1], b -> b.opposite(two[0], two[1]), 0);
        }
        story.due("a", b -> b.cross(0, 0), 3);
        story.idle("whatever the bridge KNOWS", b -> b.opposite(1, 3), 0);
    }

    static void termWhenFromADay0To9999() {
        Story story = new Story("facts 1 0;turn 0 3", "a", "not a", "a and not a", "a or not a");
        for (int day : new int[] {Integer.MIN_VALUE, -2, -1, 10000, 10001, Integer.MAX_VALUE}) {
            story.idle("from " + day, b -> b.when(3, day), -1);
        }
        for (int day : new int[] {0, 1, 3, 99, 100, 9998, 9999}) {
            story.idle("from " + day, b -> b.when(3, day), day);
            story.idle("a from " + day, b -> b.when(0, day), Math.max(3, day));
            story.idle("not a from " + day, b -> b.when(1, day), day < 3 ? day : -2);
            story.idle("never from " + day, b -> b.when(2, day), -2);
        }
    }

    static void termWhen100DaysAreLookedAt() {
        Story story = new Story("facts 1 0;turn 0 99", "a");
        story.idle("DAY 99 is the last of 100", b -> b.when(0, 0), 99);
        story.idle("from 99", b -> b.when(0, 99), 99);
        story.idle("from 98", b -> b.when(0, 98), 99);
        story.idle("from 100", b -> b.when(0, 100), 100);
        Story none = new Story("facts 1 0", "a");
        none.idle("no TURN", b -> b.when(0, 0), -2);
        Story next = new Story("facts 1 0;turn 0 98;turn 0 99", "a");
        next.idle("one DAY alone", b -> b.when(0, 0), 98);
        next.idle("behind it", b -> b.when(0, 99), -2);
    }

    static void termWhenFromNowOnIfThatIsLater() {
        Story story = new Story("facts 1 0;turn 0 2;turn 0 4;turn 0 6", "a", "not a");
        for (int day = 1; day <= 3; day++) {
            story.due("midnight", TruthBridge::midnight, day);
        }
        story.idle("from 0 is from now on", b -> b.when(0, 0), 3);
        story.idle("not a has been so", b -> b.when(1, 0), 4);
        story.idle("from 3", b -> b.when(0, 3), 3);
        story.idle("from 4", b -> b.when(0, 4), 6);
        story.idle("not a from 5", b -> b.when(1, 5), 5);
        story.idle("not a from 6", b -> b.when(1, 6), -2);
    }

    static void termWhenAlsoBeyondDay9999() {
        Story story = new Story("facts 1 1;person 0 1 0 0", "a", "not a");
        story.rule("say 0", 0);
        story.days(0, 9999);
        story.idle("DAY", b -> b.count(8), 9999);
        story.idle("the last DAY", b -> b.when(0, 9999), 9999);
        story.idle("from now on", b -> b.when(0, 0), 9999);
        story.idle("not in 100 DAYS", b -> b.when(1, 9999), -2);
        story.idle("none from DAY 10000", b -> b.when(0, 10000), -1);
        story.idle("YEARS go on: over", b -> b.years(1, 60, 0), 1);
        story.idle("YEARS go on: FELL", b -> b.years(1, 60, 1), 59);
        story.idle("DAY", b -> b.count(8), 9999);
    }

    static void termWhoFellGetsOverByNothing() {
        Story story = new Story("facts 2 3;person 0 1 3 0;person 0 1 3 0;place 0;place 1", "a or b", "a", "not a");
        int[] ways = {0, 1, 1, 0, 0, 0, 0};
        int[] none = {-2, -2, 1, -2, -2, -2, -2};
        askAll(story, 0, ways, 2);
        story.due("falls", b -> b.cross(0, 2), 0);
        askAll(story, 0, none, 1);
        story.idle("nor behind another one's SAYING", b -> b.least(1, 1), 0);
        story.due("midnight", TruthBridge::midnight, 1);
        askAll(story, 0, ways, 2);
    }

    private static void askAll(Story story, int p, int[] want, int plan) {
        story.idle("LEAST", b -> b.least(p, 0), want[0]);
        story.idle("LEAST, others", b -> b.least(p, 1), want[1]);
        story.idle("others, too", b -> b.least(1 - p, 0) + 1, want[2]);
        story.idle("WALK", b -> b.walk(p, 0), want[3]);
        story.idle("WALK, set", b -> b.walk(p, 1), want[4]);
        story.idle("BOUGHT", b -> b.bought(p, 0), want[5]);
        story.idle("BOUGHT, set", b -> b.bought(p, 1), want[6]);
        story.idle("PLAN", b -> b.plan(0, 0), plan);
    }

    static void termLeastByAGainOfTheirWeight() {
        for (int weight : new int[] {1, 2, 3, 4, 5, 6, 7, 8}) {
            Story story = new Story("facts 3 7;person 0 " + weight + " 7 0", "a and b and c", "a and b", "a", "a or b",
                    "a or b or c");
            int[] least = {0, 4, 3, 2, 2, 1, 1, 0, -2};
            story.idle("of weight " + weight, b -> b.least(0, 0), least[weight]);
        }
    }

    static void termLeastWalkBoughtOf24Sayings() {
        Story story = new Story("facts 2 3" + ";person 0 1 1 5".repeat(5) + ";person 0 1 0 5;place 1;place 0;path 0 1 2");
        for (int i = 0; i < 23; i++) {
            story.saying("b", i);
        }
        story.saying("a", 23);
        story.idle("by the last", b -> b.least(0, 0), 23);
        story.idle("nobody else behind that", b -> b.least(0, 1), 0);
        story.idle("who KNOWS nothing", b -> b.least(5, 0), -2);
        story.idle("sees b at the bridge", b -> b.walk(5, 1), 1);
        story.idle("buys a", b -> b.bought(5, 0), 5);
        story.idle("from 0", b -> b.bought(5, 1), 1);
        story.due("by b", b -> b.cross(5, 22), 3);
        story.idle("a lies two HOURS away", b -> b.walk(5, 0), 4);
        story.idle("there", b -> b.walk(5, 1), 2);
    }

    static void termLeastOfSeveralTheLeast() {
        Story story = new Story("facts 3 7;person 0 1 7 0;person 0 1 6 0", "a and b", "a", "b", "c");
        story.idle("a, b, c gain as much", b -> b.least(0, 0), 1);
        story.idle("a is not KNOWN to this one", b -> b.least(1, 0), 2);
        story.due("a is told", b -> b.cross(0, 1), 3);
        story.idle("a is KNOWN to the bridge, a and b gains as b", b -> b.least(0, 0), 0);
    }

    static void termLeastHowManyOthersOnTheirSide() {
        for (int n = 0; n <= 5; n++) {
            Story story = new Story("facts 2 3;person 0 1 3 0" + ";person 0 1 2 0".repeat(n) + ";person 1 1 2 0".repeat(5 - n),
                    "a", "b", "a or b");
            story.idle("a or b gains least", b -> b.least(0, 0), 2);
            story.idle("the others could by b", b -> b.least(0, 1), n);
        }
    }

    static void termLeastOthersBehindThat() {
        Story story = new Story("facts 2 3;person 0 1 1 0;person 0 1 1 0;person 0 1 2 0;person 0 2 2 0;person 0 3 2 0", "a", "b");
        story.idle("a", b -> b.least(0, 0), 0);
        story.idle("not by a; by b one of weight 1, none of 2 or 3", b -> b.least(0, 1), 1);
        story.due("2 goes over by a", b -> b.cross(2, 0), 3);
        story.idle("a is told: b gains 1", b -> b.least(3, 0), -2);
        Story last = new Story("facts 2 3;person 0 1 2 0;person 1 1 2 0;person 0 1 1 0", "a", "b");
        last.idle("0 is another one", b -> b.least(2, 1), 1);
    }

    static void termPlanFor4PeopleAtMost() {
        for (int n = 0; n <= 6; n++) {
            Story story = new Story("facts 4 15" + ";person 0 1 15 0".repeat(n) + ";person 1 1 15 0".repeat(6 - n), "a", "b",
                    "c", "d", "not a");
            int most = Math.min(n, 4);
            int others = Math.min(6 - n, 4);
            for (int what = 0; what <= 8; what++) {
                int w = what;
                story.idle("plan(0, " + what + ") of " + n, b -> b.plan(0, w), n > 4 ? -3 : planned(w, most, 0));
                story.idle("plan(1, " + what + ") of " + (6 - n), b -> b.plan(1, w), 6 - n > 4 ? -3 : planned(w, others, n));
            }
            story.idle("plan(0, 9)", b -> b.plan(0, 9), -1);
            story.idle("plan(0, -1)", b -> b.plan(0, -1), -1);
        }
    }

    /** One after another from the first, by 0, 1, 2, 3: each gains the half of what is left. */
    private static int planned(int what, int most, int first) {
        if (what == 0) {
            return most;
        }
        int nth = (what - 1) / 2;
        return nth >= most ? -2 : what % 2 == 1 ? first + nth : nth;
    }

    static void termPlanForThoseWhoHaveNotFallen() {
        Story story = new Story("facts 4 15" + ";person 0 1 15 0".repeat(6), "a", "b", "c", "d", "not a");
        story.idle("six", b -> b.plan(0, 0), -3);
        story.due("one falls", b -> b.cross(1, 4), 0);
        story.idle("five", b -> b.plan(0, 0), -3);
        story.idle("five: all of it", b -> b.plan(0, 8), -3);
        story.due("another one falls", b -> b.cross(0, 4), 0);
        story.idle("four", b -> b.plan(0, 0), 4);
        story.idle("the first is 2", b -> b.plan(0, 1), 2);
        story.idle("the fourth is 5", b -> b.plan(0, 7), 5);
        story.idle("by 3", b -> b.plan(0, 8), 3);
        story.due("midnight", TruthBridge::midnight, 1);
        story.idle("six again", b -> b.plan(0, 0), -3);
    }

    static void termPlanBySayings0To7Alone() {
        Story story = new Story("facts 2 3;person 0 1 3 0", "c", "c", "c", "c", "c", "c", "c");
        story.idle("none of seven", b -> b.plan(0, 0), 0);
        story.saying("c", 7);
        story.saying("a", 8);
        story.idle("8 is not used", b -> b.plan(0, 0), 0);
        story.idle("nor told", b -> b.plan(0, 1), -2);
        story.idle("LEAST uses it", b -> b.least(0, 0), 8);
        Story seven = new Story("facts 2 3;person 0 1 3 0", "c", "c", "c", "c", "c", "c", "c", "a");
        seven.idle("7 is used", b -> b.plan(0, 0), 1);
        seven.idle("by 7", b -> b.plan(0, 2), 7);
    }

    static void termPlanEachAtMostOnce() {
        Story story = new Story("facts 4 15;person 0 1 15 0", "a", "b", "c", "d");
        story.idle("one PERSON, one crossing", b -> b.plan(0, 0), 1);
        story.idle("no second", b -> b.plan(0, 3), -2);
    }

    static void termPlanTheMostAndOfThoseTheFirst() {
        Story story = new Story("facts 3 7;person 0 4 7 0;person 0 2 7 0;person 0 1 7 0", "a and b and c", "a and b", "a", "b",
                "c");
        story.row("plan(0, .)", (b, w) -> b.plan(0, w), -1, 3, 0, 2, 1, 1, 2, 0, -2, -2);
        Story last = new Story("facts 2 3;person 0 1 3 0;person 0 2 1 0", "b", "a");
        last.row("plan(0, .)", (b, w) -> b.plan(0, w), -1, 2, 1, 1, 0, 0, -2, -2, -2, -2);
    }

    static void termPlanThatTheLastMustBegin() {
        Story story = new Story("facts 3 7;person 0 1 2 0;person 0 1 5 0;person 0 4 1 0", "a", "c", "not a", "not a", "not a",
                "not a", "not a", "b");
        story.row("plan(0, .)", (b, w) -> b.plan(0, w), -1, 3, 2, 0, 0, 7, 1, 1, -2, -2);
    }

    static void termPlanOfNobody() {
        Story story = new Story("facts 1 1;person 0 1 0 0", "a");
        story.row("nobody is there: plan(1, .)", (b, w) -> b.plan(1, w), -1, 0, -2, -2, -2, -2, -2, -2, -2, -2);
        story.row("who KNOWS nothing: plan(0, .)", (b, w) -> b.plan(0, w), -1, 0, -2, -2, -2, -2, -2, -2, -2, -2);
        new Story("facts 1 1;person 0 1 1 0").idle("without SAYINGS", b -> b.plan(0, 0), 0);
    }

    /** A PERSON who can look at b in so many HOURS, having gone 12 HOURS or none ahead. */
    private static void walk(int there, int onward, int back, int fresh, int tired) {
        Story story = new Story("facts 3 7;person 0 6 0 0;place 2;place 0;place 1;place 2;path 0 1 " + there + ";path 1 2 "
                + onward + ";path 2 0 " + back + ";path 0 3 6", "a and b");
        story.idle("24 HOURS are left", b -> b.walk(0, 0), fresh);
        story.idle("the set", b -> b.walk(0, 1), fresh < 0 ? -2 : 6);
        story.due("12 are gone", b -> b.look(0, 3), 1);
        story.idle("12 HOURS are left", b -> b.walk(0, 0), tired);
        story.idle("the set", b -> b.walk(0, 1), tired < 0 ? -2 : 6);
    }

    static void termWalkOfTheHoursTheyHaveLeft() {
        walk(4, 3, 4, 11, 11);
        walk(4, 4, 4, 12, 12);
        walk(4, 5, 4, 13, -2);
        walk(8, 7, 8, 23, -2);
        walk(8, 8, 8, 24, -2);
        walk(8, 9, 8, -2, -2);
    }

    static void termWalkWithNoHoursLeft() {
        Story story = new Story("facts 2 3;person 0 1 0 0;person 0 1 0 0;place 0;place 1;path 0 1 6", "b", "a");
        story.due("12", b -> b.look(0, 1), 1);
        story.due("24", b -> b.look(0, 1), 1);
        story.idle("they KNOW b", b -> b.walk(0, 0), 0);
        story.due("b is told", b -> b.cross(0, 0), 3);
        story.idle("at the bridge there is a", b -> b.walk(0, 0), 0);
        story.idle("the set", b -> b.walk(0, 1), 1);
        story.idle("others have HOURS, too", b -> b.walk(1, 1), 1);
        story.due("a is told", b -> b.cross(1, 1), 3);
        story.idle("nothing is left to learn", b -> b.walk(0, 0), -2);
    }

    static void termWalkWithoutPlaces() {
        Story story = new Story("facts 1 1;person 0 1 1 0;person 0 1 0 0", "a");
        story.idle("who KNOWS it", b -> b.walk(0, 0), 0);
        story.idle("the empty set", b -> b.walk(0, 1), 0);
        story.idle("who does not", b -> b.walk(1, 0), -2);
    }

    static void termWalkThroughPlace0ToWhatIsSeenThere() {
        Story story = new Story("facts 2 3;person 0 1 0 0;person 0 3 0 0;place 0;place 1;path 0 1 2", "b", "a and b");
        story.idle("b lies 2 HOURS away", b -> b.walk(0, 0), 4);
        story.idle("b alone", b -> b.walk(0, 1), 2);
        story.idle("a and b", b -> b.walk(1, 0), 4);
        story.idle("both PLACES", b -> b.walk(1, 1), 3);
    }

    static void termWalkOfSeveralSetsTheLeast() {
        Story story = new Story("facts 3 7;person 0 1 0 0;place 2;place 0;place 1;place 0;path 0 1 3;path 0 2 3;path 0 3 3", "a",
                "b");
        story.idle("three PLACES 3 HOURS away", b -> b.walk(0, 0), 6);
        story.idle("the least", b -> b.walk(0, 1), 2);
        Story free = new Story("facts 2 3;person 0 1 0 0;place 0;place 1;path 0 1 3", "a", "b");
        free.idle("0 HOURS are fewer", b -> b.walk(0, 1), 1);
    }

    static void termWalkToWhatMakesAnotherFactKnown() {
        Story story = new Story("facts 2 2;person 0 1 2 0;person 0 2 0 0;place 0;place 0;path 0 1 4", "a or b", "b");
        story.idle("a alone tells nothing of b", b -> b.walk(1, 0), -2);
        story.due("a or b is told", b -> b.tell(0, 1, 0), 3);
        story.idle("that a is not so tells b", b -> b.walk(1, 0), 0);
        story.idle("as seen at the bridge", b -> b.walk(1, 1), 1);
    }

    static void termWalkThroughAllSixPlaces() {
        String places = "place 0;place 1;place 2;place 3;place 4;place 5;";
        String row = "path 0 1 2;path 1 2 2;path 2 3 2;path 3 4 3;path 4 5 3";
        Story story = new Story("facts 6 63;person 0 63 0 0;person 0 62 1 0;" + places + row,
                "a and b and c and d and e and f");
        story.idle("24 HOURS", b -> b.walk(0, 0), 24);
        story.idle("all", b -> b.walk(0, 1), 63);
        story.idle("all but the first", b -> b.walk(1, 1), 62);
        Story far = new Story("facts 6 63;person 0 63 0 0;" + places + row.replace("4 5 3", "4 5 4"),
                "a and b and c and d and e and f");
        far.idle("26 HOURS", b -> b.walk(0, 0), -2);
    }

    static void termBoughtFromOthersForTheFewestCoins() {
        Story story = new Story("facts 3 7;person 0 4 0 0;person 0 1 1 99;person 1 1 2 99;person 0 1 3 99;person 0 1 4 0",
                "a and b", "c");
        story.idle("c is told for nothing", b -> b.bought(0, 0), 0);
        story.idle("by 4", b -> b.bought(0, 1), 16);
        story.due("c is KNOWN then", b -> b.cross(4, 1), 3);
        story.idle("a and b gains 3 of 4 alone", b -> b.bought(0, 0), -2);
        Story both = new Story("facts 2 3;person 0 3 0 0;person 0 1 1 99;person 1 1 2 98;person 0 1 3 99", "a and b");
        both.idle("99 are fewer than 99 and 98", b -> b.bought(0, 0), 99);
        both.idle("by 3", b -> b.bought(0, 1), 8);
        Story sum = new Story("facts 2 3;person 0 3 0 0;person 0 1 1 49;person 1 1 2 49;person 0 1 3 99", "a and b");
        sum.idle("49 and 49 are fewer than 99", b -> b.bought(0, 0), 98);
        sum.idle("by 1 and 2", b -> b.bought(0, 1), 6);
    }

    static void termBoughtFromAllFiveOthers() {
        Story story = new Story("facts 6 63;person 0 62 1 99;person 1 1 2 99;person 0 1 4 99;person 1 1 8 99;person 0 1 16 99;"
                + "person 1 1 32 99", "a and b and c and d and e and f");
        story.idle("5 times 99 coins", b -> b.bought(0, 0), 495);
        story.idle("all others", b -> b.bought(0, 1), 62);
        story.idle("for the last", b -> b.bought(5, 0), 495);
        story.idle("all others", b -> b.bought(5, 1), 31);
    }

    /** One KNOWS a or b, one not a, the buyer c: together b and c, which none of them KNOWS. */
    static void termBoughtWhatNoneOfThemKnows() {
        Story story = new Story("facts 3 6;person 0 6 4 0;person 0 1 0 3;person 1 1 1 4;person 0 1 6 50", "a or b", "b and c");
        story.due("3 tells 1", b -> b.tell(3, 1, 0), 6);
        story.idle("coins", b -> b.bought(0, 0), 7);
        story.idle("of 1 and 2, not of 3", b -> b.bought(0, 1), 6);
        story.idle("a or b bears 1", b -> b.bought(1, 1), 0);
        story.idle("3 KNOWS b and c", b -> b.bought(3, 1), 0);
    }

    static void termBoughtOfSeveralSetsTheLeast() {
        Story story = new Story("facts 2 3;person 0 1 1 5;person 0 1 2 5;person 1 1 3 5;person 0 1 0 5", "a", "b");
        story.idle("three for 5", b -> b.bought(3, 0), 5);
        story.idle("the least", b -> b.bought(3, 1), 1);
        Story zero = new Story("facts 2 3;person 0 3 1 0;person 0 1 2 4;person 0 1 3 4;person 0 1 0 0", "a and b");
        zero.idle("4 coins", b -> b.bought(0, 0), 4);
        zero.idle("the least without whom it goes", b -> b.bought(0, 1), 2);
    }

    static void termBoughtFromWhoFellAndFromTheOtherSide() {
        Story story = new Story("facts 1 1;person 0 1 0 0;person 1 1 1 3", "a", "not a");
        story.due("falls", b -> b.cross(1, 1), 0);
        story.idle("tells nevertheless", b -> b.bought(0, 0), 3);
        story.idle("by 1", b -> b.bought(0, 1), 2);
        story.idle("but buys nothing", b -> b.bought(1, 0), -2);
    }

    static void termBoughtFromNobody() {
        Story story = new Story("facts 1 1;person 0 1 1 9", "a", "b");
        story.idle("what one KNOWS", b -> b.bought(0, 0), 0);
        story.idle("the empty set", b -> b.bought(0, 1), 0);
        Story alone = new Story("facts 1 1;person 0 1 0 0", "a");
        alone.idle("alone", b -> b.bought(0, 0), -2);
        alone.idle("no set", b -> b.bought(0, 1), -2);
    }

    static void termSetsOfSayings0To7() {
        for (int n = 0; n <= 9; n++) {
            Story story = new Story("facts 8 0");
            for (int i = 0; i < n; i++) {
                story.saying("" + (char) ('a' + i % 8), i);
            }
            int all = (1 << Math.min(n, 8)) - 1;
            story.idle("sets of " + n, b -> b.sets(0), all + 1);
            story.idle("in all", b -> b.sets(1), 0);
            story.idle("in none", b -> b.sets(2), 0);
        }
    }

    static void termSetsSayingsThatAreInAllOrInNone() {
        Story story = new Story("facts 8 0", "a", "b", "c", "d", "e", "f", "g", "h", "a and h", "b or c");
        story.due("by a and h one FELL", b -> b.trial(8, true), 1);
        story.due("by b or c not", b -> b.trial(9, false), 2);
        story.idle("16 SETS", b -> b.sets(0), 16);
        story.idle("a and h in all", b -> b.sets(1), 0x81);
        story.idle("b and c in none", b -> b.sets(2), 0x06);
        for (int s : new int[] {3, 4, 5, 6}) {
            story.due("by " + s + " one FELL", b -> b.trial(s, true), s);
        }
        story.idle("one SET", b -> b.sets(0), 1);
        story.idle("is in all", b -> b.sets(1), 0xF9);
        story.idle("the others in none", b -> b.sets(2), 0x06);
        story.due("by a one FELL not", b -> b.trial(0, false), 7);
        story.each("no SET: sets", TruthBridge::sets, 0, 0, 0);
        story.each("nothing to say: next", TruthBridge::next, -2, -2);
    }

    static void termTrials0To9() {
        Story story = new Story("facts 2 0", "a", "b");
        for (int i = 1; i <= 9; i++) {
            story.due("trial", b -> b.trial(0, true), i);
        }
        story.idle("a is in all", b -> b.sets(1), 1);
        story.due("the tenth", b -> b.trial(1, false), 10);
        story.idle("it counts", b -> b.sets(2), 2);
        story.idle("an 11th", b -> b.trial(1, true), -2);
        story.due("image", b -> b.image(0), 0);
        story.due("back", b -> b.back(0), 0);
        story.idle("ten", b -> b.count(10), 10);
        story.idle("one SET", b -> b.sets(0), 1);
        story.due("none", b -> b.trial(-1, true), 0);
        story.idle("none", b -> b.count(10), 0);
        story.idle("four SETS", b -> b.sets(0), 4);
        story.due("the first again", b -> b.trial(1, false), 1);
        story.idle("two SETS", b -> b.sets(0), 2);
        story.idle("b in none, though one FELL in the first ahead", b -> b.sets(2), 2);
        story.due("none", b -> b.trial(-1, true), 0);
        story.due("by a one FELL not", b -> b.trial(0, false), 1);
        story.idle("a in none", b -> b.sets(2), 1);
    }

    static void termNextTheGreaterPartIsFewest() {
        Story story = new Story("facts 3 0", "a", "b", "c", "a or not a", "a and b and c");
        story.idle("a FOLLOWS from 24 SETS of 32, a and b and c from 18", b -> b.next(0), 4);
        story.idle("18 of 32", b -> b.next(1), 18);
        story.due("by a and b and c one FELL not", b -> b.trial(4, false), 1);
        story.idle("14 SETS: 6 with a, 8 without", b -> b.next(1), 8);
        story.idle("the least", b -> b.next(0), 0);
        story.due("by a one FELL", b -> b.trial(0, true), 2);
        story.idle("then b", b -> b.next(0), 1);
        story.idle("2 of 6, or 4", b -> b.next(1), 4);
    }

    static void termNextOfAllSayingsUpTo23() {
        Story story = new Story("facts 8 0");
        for (int i = 0; i < 23; i++) {
            story.saying("a or not a", i);
        }
        story.idle("none parts", b -> b.next(0), 0);
        story.idle("256 SETS", b -> b.next(1), 256);
        story.saying("a", 23);
        story.idle("it FOLLOWS from none of them either", b -> b.next(0), 0);
        Story late = new Story("facts 2 0", "a", "a", "a", "a", "a", "a", "a", "b");
        for (int i = 8; i < 23; i++) {
            late.saying("b or not b", i);
        }
        late.saying("a and b", 23);
        late.idle("7 parts in halves", b -> b.next(0), 7);
        late.due("by b one FELL", b -> b.trial(7, true), 1);
        late.idle("a and a and b part as badly", b -> b.next(0), 0);
        late.idle("127 of 128", b -> b.next(1), 127);
    }

    static void termNextWithoutSayingsOrSets() {
        Story story = new Story("facts 1 0");
        story.idle("no SAYING", b -> b.next(0), -2);
        story.idle("no SAYING", b -> b.next(1), -2);
        story.saying("a", 0);
        story.idle("a", b -> b.next(0), 0);
        story.idle("1 of 2", b -> b.next(1), 1);
        story.due("by a one FELL", b -> b.trial(0, true), 1);
        story.idle("nothing parts one SET", b -> b.next(1), 1);
        story.due("and not", b -> b.trial(0, false), 2);
        story.idle("no SET", b -> b.next(0), -2);
        story.idle("no SET", b -> b.next(1), -2);
    }

    static void termAnotherBridgeFactsAreNotAsked() {
        for (int facts = 0; facts < 4; facts++) {
            Story story = new Story("facts 2 " + facts + ";person 0 1 0 0;turn 0 1", "a", "not a", "b");
            story.due("by b one FELL", b -> b.trial(2, true), 1);
            story.idle("b, or what can't be", b -> b.sets(0), 5);
            story.due("midnight", TruthBridge::midnight, 1);
            story.idle("whatever turns", b -> b.sets(0), 5);
            story.idle("nor what the bridge was told", b -> b.next(0), 0);
        }
    }

    /** One PERSON, n SAYINGS that are so, one that falls: what YEARS of one DAY tell of the first DRAW. */
    static void termDrawsGoRound() {
        Story story = new Story("facts 1 1;person 0 1 0 0", "a", "not a");
        int[] x = {0, 1, 2, 65535, 65536, 1103515245, 2147483646, 2147483647};
        for (int from : x) {
            long next = (from * 1103515245L + 12345) % 2147483648L;
            int over = next / 65536 % 2 == 0 ? 1 : 0;
            story.due("seed", b -> b.seed(from), before(x, from));
            story.idle("over from " + from, b -> b.years(1, 1, 0), over);
            story.idle("FELL from " + from, b -> b.years(1, 1, 1), 1 - over);
        }
    }

    /** Just one of n SAYINGS is so: one gets over by the first DRAW just if it is that one. */
    static void termDrawsModHowManySayingsThereAre() {
        for (int n : new int[] {1, 2, 3, 5, 7, 16, 23, 24}) {
            int from = 1000003 * n;
            int draw = (int) ((from * 1103515245L + 12345) % 2147483648L / 65536);
            for (int so = 0; so < n; so++) {
                int over = draw % n == so ? 1 : 0;
                Story story = new Story("facts 1 1;person 0 1 0 0");
                for (int i = 0; i < n; i++) {
                    story.saying(i == so ? "a" : "not a", i);
                }
                story.due("seed", b -> b.seed(from), 0);
                story.idle(n + " SAYINGS, " + so + " is so: over", b -> b.years(1, 1, 0), over);
            }
        }
    }

    private static int before(int[] x, int from) {
        for (int i = 1; i < x.length; i++) {
            if (x[i] == from) {
                return x[i - 1];
            }
        }
        return 0;
    }

    static void termYears1To10Times1To60Days() {
        Story story = new Story("facts 2 3;person 0 1 0 0;turn 0 60;turn 1 59", "a or b or not a");
        for (int m : new int[] {Integer.MIN_VALUE, -1, 0, 11, 12, Integer.MAX_VALUE}) {
            story.idle(m + " times", b -> b.years(m, 1, 0), -1);
        }
        for (int n : new int[] {Integer.MIN_VALUE, -1, 0, 61, 62, Integer.MAX_VALUE}) {
            story.idle(n + " DAYS", b -> b.years(1, n, 0), -1);
        }
        for (int m : new int[] {1, 2, 9, 10}) {
            for (int n : new int[] {1, 2, 59, 60}) {
                story.idle(m + " times " + n + " DAYS: over", b -> b.years(m, n, 0), 0);
                story.idle(m + " times " + n + " DAYS: FELL", b -> b.years(m, n, 1), m * n);
                story.idle(m + " times " + n + " DAYS: WORLDS", b -> b.years(m, n, 2), 4 * m);
            }
        }
    }

    static void termYearsEachFromNowOn() {
        Story story = new Story("facts 2 3;person 0 1 0 0;person 0 1 0 0;turn 0 3;turn 0 6", "a", "b");
        story.due("cross", b -> b.cross(0, 0), 3);
        story.due("falls", b -> b.cross(1, 0), 1);
        story.due("seed", b -> b.seed(1), 0);
        int[][] one = {{0, 1, 2}, {1, 2, 1}, {1, 4, 2}};
        int[][] ten = {{5, 5, 15}, {10, 20, 10}, {10, 40, 20}};
        for (int days = 1; days <= 3; days++) {
            int n = days;
            story.each("years(1, " + n + ", .)", (b, w) -> b.years(1, n, w), one[n - 1]);
            story.each("years(10, " + n + ", .)", (b, w) -> b.years(10, n, w), ten[n - 1]);
        }
        story.idle("x stays", b -> b.count(12), 1);
        story.idle("DAY", b -> b.count(8), 0);
    }

    static void termYearsWithoutSayingsOrPeople() {
        Story story = new Story("facts 2 3;person 0 1 0 0;turn 0 1");
        story.due("seed", b -> b.seed(9), 0);
        story.each("without SAYINGS: years(10, 60, .)", (b, w) -> b.years(10, 60, w), 0, 0, 40);
        story.idle("x as it was", b -> b.count(12), 9);
        Story nobody = new Story("facts 2 3", "a");
        nobody.each("without PEOPLE: years(10, 60, .)", (b, w) -> b.years(10, 60, w), 0, 0, 40);
    }

    static void termImages0To3() {
        Story story = new Story("facts 1 1;person 0 1 0 0", "a");
        for (int k : new int[] {Integer.MIN_VALUE, -1, 4, 5, Integer.MAX_VALUE}) {
            story.idle("image " + k, b -> b.image(k), -1);
            story.idle("back " + k, b -> b.back(k), -1);
        }
        for (int k = 0; k < 4; k++) {
            int i = k;
            story.idle("never made", b -> b.back(i), -1);
            story.due("midnight", TruthBridge::midnight, k + 1);
            story.due("image", b -> b.image(i), k + 1);
        }
        story.due("cross", b -> b.cross(0, 0), 3);
        for (int k = 3; k >= 0; k--) {
            int i = k;
            story.due("back", b -> b.back(i), k + 1);
            story.idle("DAY", b -> b.count(8), k + 1);
            story.idle("nobody crossed", b -> b.count(9), 2);
        }
    }

    static void termImageSayingsRulesAndTapeStay() {
        Story story = new Story("facts 1 1;person 0 1 0 0", "a");
        story.rule("say 1", 0);
        story.due("image", b -> b.image(0), 0);
        story.saying("not a", 1);
        story.rule("say 2", 1);
        story.due("a TAPE", b -> b.feed(0x61000000, 0, 0, 0, 0), 20);
        story.due("its end", b -> b.end(1), 1);
        story.idle("nothing else is otherwise", b -> b.back(0), 0);
        story.idle("SAYINGS", b -> b.count(6), 2);
        story.idle("RULES", b -> b.count(7), 2);
        story.idle("TAPE", b -> b.count(13), 1);
        story.due("a as it stands there", TruthBridge::saying, 2);
    }

    static void termImageWhatCanBeUndoneToo() {
        Story story = new Story("facts 1 1;person 0 1 0 0", "a");
        for (int day = 1; day <= 21; day++) {
            story.due("midnight", TruthBridge::midnight, day);
        }
        story.due("image", b -> b.image(2), 21);
        for (int left = 19; left >= 0; left--) {
            story.due("undo", TruthBridge::undo, left);
        }
        story.due("other ACTS", b -> b.cross(0, 0), 3);
        story.land("facts 2 3;person 1 1 0 0;place 0", 1);
        for (int acts = 1; acts <= 20; acts++) {
            story.due("other ACTS of another LAND", b -> b.look(0, 0), 1);
        }
        story.due("back", b -> b.back(2), 21);
        story.idle("20 ACTS", b -> b.count(11), 20);
        for (int left = 19; left >= 0; left--) {
            story.due("undo", TruthBridge::undo, left);
            story.idle("DAY", b -> b.count(8), left + 1);
        }
        story.idle("no more", TruthBridge::undo, -2);
    }

    static void termImageTrialsAsTheyWere() {
        Story story = new Story("facts 4 0", "a", "b", "c", "d");
        story.due("by a one FELL", b -> b.trial(0, true), 1);
        story.due("by b not", b -> b.trial(1, false), 2);
        story.due("image", b -> b.image(0), 0);
        story.due("none", b -> b.trial(-1, true), 0);
        story.due("by c not", b -> b.trial(2, false), 1);
        story.due("by d one FELL", b -> b.trial(3, true), 2);
        story.due("another image", b -> b.image(1), 0);
        story.idle("d in all", b -> b.sets(1), 8);
        story.idle("c in none", b -> b.sets(2), 4);
        story.due("back", b -> b.back(0), 0);
        story.idle("a in all", b -> b.sets(1), 1);
        story.idle("b in none", b -> b.sets(2), 2);
        story.due("back", b -> b.back(1), 0);
        story.idle("d in all again", b -> b.sets(1), 8);
        story.idle("c in none again", b -> b.sets(2), 4);
    }

    static void termImageHoursWhoFellAndWhoIsWhere() {
        Story story = new Story("facts 2 3;person 0 1 0 0;person 0 1 1 0;place 0;place 0;path 0 1 2", "a", "not a");
        story.due("look", b -> b.look(0, 1), 1);
        story.due("falls", b -> b.cross(0, 1), 0);
        story.due("over", b -> b.cross(1, 0), 3);
        story.due("image", b -> b.image(0), 0);
        story.due("midnight", TruthBridge::midnight, 1);
        story.due("look", b -> b.look(1, 1), 1);
        story.land("facts 1 1;person 0 1 0 0;person 0 1 0 0", 2);
        story.due("back", b -> b.back(0), 0);
        story.each("person(0, .)", (b, w) -> b.person(0, w), 0, 1, 0, 4, 1, 2, 1);
        story.each("person(1, .)", (b, w) -> b.person(1, w), 1, 1, 0, 0, 0, 2, 1);
        story.idle("WORLDS of the bridge", b -> b.count(9), 2);
    }

    static void termImageTrialsXAndTheLandAsTheyWere() {
        Story story = new Story("facts 2 3;person 0 1 0 0", "a", "b");
        story.due("trial", b -> b.trial(0, true), 1);
        story.due("seed", b -> b.seed(7), 0);
        story.due("image", b -> b.image(3), 0);
        story.due("trial", b -> b.trial(1, true), 2);
        story.due("seed", b -> b.seed(8), 7);
        story.land("facts 3 0;person 1 1 0 0;person 1 1 0 0;place 0", 2);
        story.due("back", b -> b.back(3), 0);
        story.row("count", TruthBridge::count, -1, 2, 3, 1, 0, 0, 0, 2, 0, 0, 4, 1, 0, 7, 0);
        story.idle("the TRIAL", b -> b.sets(1), 1);
        story.idle("SIDE", b -> b.person(0, 0), 0);
    }
}
