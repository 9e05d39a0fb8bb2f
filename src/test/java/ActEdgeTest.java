/** Terms, II: what one HOLDS, what the ACTS refuse, how many can be UNDONE, and DAYS BY A RULE. */
final class ActEdgeTest {
    private static final String ALL = "a and b and c and d and e and f and g and h";
    private static final String ANY = "a or b or c or d or e or f or g or h";

    public static void main(String[] args) throws ReflectiveOperationException {
        Check.cases(ActEdgeTest.class);
    }

    static void termWorldsTheBridgeHoldsAllAtFirst() {
        for (int n = 1; n <= 8; n++) {
            int all = 1 << n;
            Story story = new Story("facts " + n + " 1");
            story.idle("how many", b -> b.count(9), all);
            for (int w : new int[] {0, 1, all - 1}) {
                story.idle("WORLD " + w, b -> b.possible(-1, w), 1);
            }
            story.idle("no such WORLD", b -> b.possible(-1, all), -2);
        }
    }

    static void termWorldsAPersonHoldsAtFirst() {
        for (int fact = 0; fact < 8; fact++) {
            int f = fact;
            int bit = 1 << fact;
            Story story = new Story("facts 8 170;person 0 1 0 0;person 0 1 " + bit + " 0;person 0 1 " + (255 - bit)
                    + " 0;person 0 1 255 0");
            int[] held = {256, 128, 2, 1};
            int[] known = {0, bit, 255 - bit, 255};
            for (int p = 0; p < 4; p++) {
                int who = p;
                story.idle("WORLDS of " + p, b -> b.person(who, 5), held[p]);
                story.idle("FACTS of " + p, b -> b.person(who, 6), known[p]);
                story.idle("as all is", b -> b.possible(who, 170), 1);
                story.idle("but for FACT " + f, b -> b.possible(who, 170 ^ bit), p % 2 == 0 ? 1 : 0);
            }
        }
    }

    static void termKnownIfItIsSoInAllWorldsHeld() {
        Story story = new Story("facts 3 7;person 0 1 1 0;person 0 1 0 0", "a", "a or b or c", "a or not a", "not a");
        story.each("who knows a: knows(0, .)", (b, s) -> b.knows(0, s), 1, 1, 1, 0);
        story.each("in all WORLDS but one is not in all: knows(1, .)", (b, s) -> b.knows(1, s), 0, 0, 1, 0);
        story.each("the bridge: knows(-1, .)", (b, s) -> b.knows(-1, s), 0, 0, 1, 0);
    }

    /** WORLDS of three kinds alone are left: then what is so in one kind alone is not KNOWN. */
    static void termKnownInEachQuarterOfTheWorlds() {
        String[] kinds = {"not g and not h", "g and not h", "not g and h", "g and h"};
        for (int one = 0; one < 4; one++) {
            for (int other = one + 1; other < 4; other++) {
                int facts = 64 * one + 1;
                Story story = new Story("facts 8 " + facts + ";person 0 1 0 0", kinds[one] + " or " + kinds[other], "a",
                        kinds[one], kinds[other], "b or not b", "not a and [" + kinds[one] + " or " + kinds[other] + "]");
                story.due("both kinds", b -> b.cross(0, 0), 3);
                story.each("knows(-1, .)", (b, s) -> b.knows(-1, s), 1, 0, 0, 0, 1, 0);
                story.each("follows(1, .)", (b, s) -> b.follows(1, s), 1, 0, 0, 0, 1, 0);
                story.idle("a isn't OPPOSITE to both kinds", b -> b.opposite(0, 1), 0);
                story.idle("nor to one", b -> b.opposite(1, 2), 0);
                story.idle("a and not a are", b -> b.opposite(1, 5), 1);
                story.idle("both kinds are to each other", b -> b.opposite(2, 3), 1);
            }
        }
    }

    static void termGainFromNoWorldToAll() {
        Story story = new Story("facts 8 255", "a or not a", ANY, "a", ALL, "a and not a");
        story.row("gain", TruthBridge::gain, -1, 0, 1, 128, 255, 256);
        story.row("shown", TruthBridge::shown, -1, -2, 0, 0, 0, 0);
    }

    /** One who weighs so much CROSSES by a SAYING whose GAIN is known. */
    private static void cross(int weight, String saying, int gain, int came) {
        Story story = new Story("facts 8 255;person 0 " + weight + " 0 0;person 1 " + weight + " 0 0", saying);
        story.idle("gain", b -> b.gain(0), gain);
        int side = came == 3 ? 1 : 0;
        for (int p = 0; p < 2; p++) {
            int who = p;
            story.due("image", b -> b.image(0), 0);
            story.due("cross by a gain of " + gain, b -> b.cross(who, 0), came);
            story.idle("their SIDE", b -> b.person(who, 0), p == 0 ? side : 1 - side);
            story.idle("FELL", b -> b.person(who, 4), 0);
            story.idle("they learn nothing", b -> b.person(who, 5), 256);
            story.idle("the bridge is told it", b -> b.count(9), 256 - gain);
            story.idle("an ACT", b -> b.count(11), 1);
            story.due("back", b -> b.back(0), 0);
        }
    }

    static void termCrossByAGainOfTheirWeight() {
        cross(1, ANY, 1, 3);
        cross(2, "a or b or c or d or e or f or g", 2, 3);
        cross(64, "a or b", 64, 3);
        cross(127, "a or b and c and d and e and f and g and h", 127, 3);
        cross(128, "a", 128, 3);
    }

    static void termCrossByAGainOneBelowTheirWeight() {
        cross(2, ANY, 1, 2);
        cross(65, "a or b", 64, 2);
        cross(128, "a or b and c and d and e and f and g and h", 127, 2);
    }

    static void termCrossByAGainAboveTheirWeight() {
        cross(1, "a or b or c or d or e or f or g", 2, 3);
        cross(63, "a or b", 64, 3);
        cross(127, "a", 128, 3);
        cross(128, ALL, 255, 3);
    }

    static void termCrossByWhatIsNotSo() {
        Story story = new Story("facts 2 1;person 0 1 0 0;person 1 1 0 0", "b", "not a");
        story.due("b is not so", b -> b.cross(0, 0), 0);
        story.idle("FELL", b -> b.person(0, 4), 1);
        story.idle("is where they were", b -> b.person(0, 0), 0);
        story.idle("the bridge is told nothing", b -> b.count(9), 4);
        story.due("a is so", b -> b.cross(1, 1), 0);
        story.idle("FELL", b -> b.person(1, 4), 1);
        story.idle("ACTS", b -> b.count(11), 2);
    }

    static void termCrossByWhatIsKnown() {
        Story story = new Story("facts 2 1;person 0 1 0 0;person 1 1 0 0;person 0 1 0 0", "a", "a or b", "b or not b");
        story.due("what is always so", b -> b.cross(2, 2), 1);
        story.due("a", b -> b.cross(0, 0), 3);
        story.due("a or b follows from it", b -> b.cross(1, 1), 1);
        story.due("a once more", b -> b.cross(0, 0), 1);
        story.idle("FELL on the other SIDE", b -> b.person(0, 4) * 2 + b.person(0, 0), 3);
        story.idle("the bridge HOLDS on to what it was told", b -> b.count(9), 2);
    }

    static void termCrossOftenOnADay() {
        Story story = new Story("facts 3 7;person 0 1 0 0", "a or b", "a", "b", "c");
        for (int s = 0; s < 4; s++) {
            int told = s;
            story.due("by " + s, b -> b.cross(0, told), 3);
            story.idle("SIDE", b -> b.person(0, 0), 1 - s % 2);
        }
        story.idle("all is KNOWN", b -> b.count(9), 1);
    }

    static void termCrossWithoutThese() {
        Story story = new Story("facts 2 3;person 0 1 0 0;person 1 1 0 0", "a", "b");
        for (int p : new int[] {Integer.MIN_VALUE, -2, -1, 2, 6, Integer.MAX_VALUE}) {
            story.idle("PERSON " + p, b -> b.cross(p, 0), -1);
        }
        for (int s : new int[] {Integer.MIN_VALUE, -2, -1, 2, 24, Integer.MAX_VALUE}) {
            story.idle("SAYING " + s, b -> b.cross(0, s), -1);
        }
        story.due("the last of both", b -> b.cross(1, 1), 3);
    }

    static void termWhoFellDoesNothingMoreThatDay() {
        Story story = new Story("facts 2 1;person 0 1 3 0;person 0 1 3 0;place 0;place 0;path 0 1 1", "b", "a");
        story.due("falls", b -> b.cross(0, 0), 0);
        story.idle("crosses", b -> b.cross(0, 1), -1);
        story.idle("tells", b -> b.tell(0, 1, 1), -1);
        story.idle("is told", b -> b.tell(1, 0, 1), -1);
        story.idle("looks", b -> b.look(0, 1), -1);
        story.idle("looks at the bridge", b -> b.look(0, 0), -1);
        story.due("another one does", b -> b.look(1, 1), 1);
        story.due("midnight", TruthBridge::midnight, 1);
        story.due("tells", b -> b.tell(0, 1, 1), 1);
        story.due("is told", b -> b.tell(1, 0, 1), 1);
        story.due("looks", b -> b.look(0, 1), 1);
        story.due("crosses", b -> b.cross(0, 1), 3);
    }

    static void termTellOnOneSideOnly() {
        Story story = new Story("facts 2 3;person 0 1 1 0;person 1 1 0 0;person 0 1 0 0;person 1 1 1 0", "a", "b");
        story.idle("from 0 to 1", b -> b.tell(0, 1, 0), -1);
        story.idle("from 1 to 0", b -> b.tell(3, 2, 0), -1);
        story.due("on SIDE 0", b -> b.tell(0, 2, 0), 2);
        story.due("on SIDE 1", b -> b.tell(3, 1, 0), 2);
        story.due("over", b -> b.cross(2, 1), 3);
        story.idle("on SIDE 0 no more", b -> b.tell(0, 2, 0), -1);
        story.due("on SIDE 1 now", b -> b.tell(2, 1, 0), 2);
    }

    static void termTellWhatOneKnows() {
        Story story = new Story("facts 2 3;person 0 1 1 0;person 0 1 0 0;person 0 1 0 0", "a", "b", "a or b", "b or not b");
        story.idle("b is not KNOWN", b -> b.tell(0, 1, 1), -1);
        story.due("a or b is", b -> b.tell(0, 1, 2), 3);
        story.idle("that is all", b -> b.tell(1, 2, 0), -1);
        story.due("they tell it on", b -> b.tell(1, 2, 2), 3);
        story.due("a is KNOWN", b -> b.tell(0, 1, 0), 2);
        story.due("what was KNOWN is told again", b -> b.tell(0, 1, 2), 2);
        story.due("what is always so", b -> b.tell(2, 1, 3), 2);
        story.idle("ACTS", b -> b.count(11), 5);
        story.idle("the bridge isn't told", b -> b.count(9), 4);
        story.idle("nor who told it", b -> b.person(0, 5), 2);
    }

    static void termTellAnotherOne() {
        Story story = new Story("facts 1 1;person 0 1 1 0;person 0 1 1 0", "a");
        story.idle("oneself", b -> b.tell(0, 0, 0), -1);
        story.idle("oneself", b -> b.tell(1, 1, 0), -1);
        for (int p : new int[] {Integer.MIN_VALUE, -1, 2, Integer.MAX_VALUE}) {
            story.idle("from " + p, b -> b.tell(p, 0, 0), -1);
            story.idle("to " + p, b -> b.tell(0, p, 0), -1);
            story.idle("from and to " + p, b -> b.tell(p, p, 0), -1);
        }
        for (int s : new int[] {Integer.MIN_VALUE, -1, 1, Integer.MAX_VALUE}) {
            story.idle("SAYING " + s, b -> b.tell(0, 1, s), -1);
        }
        story.due("another one", b -> b.tell(0, 1, 0), 1);
    }

    static void termLook24HoursADay() {
        Story story = new Story("facts 3 5;person 0 1 0 0;person 1 1 0 0;place 0;place 1;place 2;place 0;path 0 1 6;path 1 2 6;"
                + "path 2 3 1");
        story.idle("13 hours away", b -> b.look(0, 3), -1);
        story.due("12 hours away", b -> b.look(0, 2), 1);
        story.idle("24 are gone", b -> b.person(0, 3), 24);
        story.idle("no HOURS are left", b -> b.look(0, 1), -1);
        story.due("but for what is at the bridge", b -> b.look(0, 0), 1);
        story.due("others have theirs", b -> b.look(1, 1), 0);
        story.due("just enough", b -> b.look(1, 1), 0);
        story.idle("24 are gone", b -> b.person(1, 3), 24);
        story.due("midnight", TruthBridge::midnight, 1);
        story.due("a new DAY", b -> b.look(0, 2), 1);
    }

    static void termLookOneHourTooMany() {
        Story story = new Story("facts 1 1;person 0 1 0 0;place 0;place 0;place 0;path 0 1 1;path 0 2 2");
        for (int i = 1; i <= 5; i++) {
            story.due("look", b -> b.look(0, 2), 1);
        }
        story.due("look", b -> b.look(0, 1), 1);
        story.idle("22 are gone", b -> b.person(0, 3), 22);
        story.idle("4 more", b -> b.look(0, 2), -1);
        story.due("2 more", b -> b.look(0, 1), 1);
        story.idle("2 more", b -> b.look(0, 1), -1);
    }

    static void termLookWhereThereIsNoWay() {
        Story story = new Story("facts 2 2;person 0 1 0 0;place 0;place 1;place 1;path 1 2 1");
        story.idle("no PATH", b -> b.look(0, 1), -1);
        story.idle("nor by another PLACE", b -> b.look(0, 2), -1);
        for (int k : new int[] {Integer.MIN_VALUE, -1, 3, 6, Integer.MAX_VALUE}) {
            story.idle("PLACE " + k, b -> b.look(0, k), -1);
        }
        for (int p : new int[] {Integer.MIN_VALUE, -1, 1, 6, Integer.MAX_VALUE}) {
            story.idle("PERSON " + p, b -> b.look(p, 0), -1);
        }
        story.due("at the bridge", b -> b.look(0, 0), 0);
        story.idle("that was seen", b -> b.person(0, 6), 1);
    }

    static void termLookWithoutPlaces() {
        new Story("facts 1 1;person 0 1 0 0").idle("PLACE 0", b -> b.look(0, 0), -1);
    }

    static void termLookTheShortestWay() {
        Story story = new Story("facts 1 1;person 0 1 0 0;place 0;place 0;place 0;path 0 1 9;path 0 2 2;path 2 1 6;path 0 1 9");
        story.due("by PLACE 2", b -> b.look(0, 1), 1);
        story.idle("HOURS", b -> b.person(0, 3), 16);
    }

    static void termLookTellsHowItIs() {
        for (int fact = 0; fact < 8; fact++) {
            int f = fact;
            for (int so = 0; so < 2; so++) {
                int facts = so == 1 ? 1 << fact : 255 ^ 1 << fact;
                Story story = new Story("facts 8 " + facts + ";person 1 1 0 0;place " + fact);
                story.due("FACT " + fact, b -> b.look(0, 0), so);
                story.idle("WORLDS", b -> b.person(0, 5), 128);
                story.idle("what they KNOW", b -> b.person(0, 6), 1 << f);
                story.idle("as it is", b -> b.possible(0, facts), 1);
                story.idle("not the other way", b -> b.possible(0, facts ^ 1 << f), 0);
            }
        }
    }

    static void termLookTellsWhatFollowsFromWhatWasKnown() {
        Story story = new Story("facts 3 2;person 0 1 6 0;person 0 1 0 0;place 0", "a or b", "b");
        story.due("a or b is told", b -> b.tell(0, 1, 0), 6);
        story.idle("not which of them", b -> b.person(1, 6), 0);
        story.due("a is not so", b -> b.look(1, 0), 0);
        story.idle("so b is", b -> b.knows(1, 1), 1);
        story.idle("both are KNOWN", b -> b.person(1, 6), 3);
        story.idle("WORLDS", b -> b.person(1, 5), 2);
    }

    static void termMidnightWithoutALand() {
        new Story().idle("midnight", TruthBridge::midnight, -1);
    }

    private static Story onDay(int day, String land, String... sayings) {
        Story story = new Story(land, sayings);
        return story.rule("say 0", 0).days(0, day).idle("DAY", b -> b.count(8), day);
    }

    static void termMidnightUpToDay9999() {
        Story story = onDay(9998, "facts 1 1;person 0 1 0 0;place 0;place 0;path 0 1 2", "not a");
        story.due("DAY 9999", TruthBridge::midnight, 9999);
        story.due("falls", b -> b.cross(0, 0), 0);
        story.idle("no DAY more", TruthBridge::midnight, -1);
        story.idle("who FELL is not up again", b -> b.person(0, 4), 1);
        story.due("undo", TruthBridge::undo, 1);
        story.due("looks", b -> b.look(0, 1), 1);
        story.idle("no DAY more", TruthBridge::midnight, -1);
        story.idle("the HOURS stay", b -> b.person(0, 3), 4);
        story.idle("two ACTS", b -> b.count(11), 2);
        story.due("undo", TruthBridge::undo, 1);
        story.due("undo", TruthBridge::undo, 0);
        story.due("DAY 9999 again", TruthBridge::midnight, 9999);
    }

    static void termMidnightHoursAre0AndNobodyHasFallen() {
        Story story = new Story("facts 1 1" + ";person 0 1 0 0".repeat(6) + ";place 0;place 0;path 0 1 3", "not a");
        for (int p = 0; p < 6; p++) {
            int who = p;
            story.due("looks", b -> b.look(who, 1), 1);
            story.due("falls", b -> b.cross(who, 0), 0);
        }
        story.due("midnight", TruthBridge::midnight, 1);
        for (int p = 0; p < 6; p++) {
            int who = p;
            story.idle("HOURS", b -> b.person(who, 3), 0);
            story.idle("FELL", b -> b.person(who, 4), 0);
            story.idle("they KNOW what they saw", b -> b.person(who, 5), 1);
        }
    }

    static void termMidnightTurnsOfThatDayAlone() {
        Story story = new Story("facts 3 1;person 0 1 7 0;turn 0 2;turn 1 3;turn 2 3;turn 0 99");
        int[] facts = {1, 1, 0, 6, 6};
        int[] held = {1, 1, 2, 8, 8};
        for (int day = 0; day <= 4; day++) {
            int d = day;
            if (day > 0) {
                story.due("midnight", TruthBridge::midnight, day);
            }
            story.idle("FACTS of DAY " + day, b -> b.count(1), facts[d]);
            story.idle("WORLDS of DAY " + day, b -> b.person(0, 5), held[d]);
        }
    }

    static void termMidnightTwoTurnsOfAFactOnADay() {
        Story story = new Story("facts 2 1;person 0 1 3 0;turn 0 1;turn 0 1", "a");
        story.due("cross", b -> b.cross(0, 0), 3);
        story.due("midnight", TruthBridge::midnight, 1);
        story.idle("a is as it was", b -> b.fact(0), 1);
        story.idle("but known no more", b -> b.person(0, 6), 2);
        story.idle("nor to the bridge", b -> b.count(9), 4);
        Story three = new Story("facts 2 1;person 0 1 3 0;turn 0 1;turn 0 1;turn 0 1");
        three.due("midnight", TruthBridge::midnight, 1);
        three.idle("the other way", b -> b.fact(0), 0);
    }

    static void termMidnightWhatWasKnownOfThatFactAlone() {
        for (int fact = 0; fact < 8; fact++) {
            int f = fact;
            int bit = 1 << fact;
            Story story = new Story("facts 8 255;person 0 1 255 0;person 0 1 " + bit + " 0;person 0 1 0 0;turn " + fact + " 1",
                    ALL, ANY);
            story.due("ANY", b -> b.cross(2, 1), 3);
            story.due("ALL", b -> b.cross(0, 0), 3);
            story.due("midnight", TruthBridge::midnight, 1);
            int[] known = {255 ^ bit, 0, 0};
            int[] held = {2, 256, 256};
            for (int p = 0; p < 3; p++) {
                int who = p;
                story.idle("FACTS of " + p, b -> b.person(who, 6), known[who]);
                story.idle("WORLDS of " + p, b -> b.person(who, 5), held[who]);
            }
            story.idle("the bridge", b -> b.count(9), 2);
            story.idle("as it is", b -> b.possible(-1, 255 ^ 1 << f), 1);
            story.idle("as it was", b -> b.possible(-1, 255), 1);
        }
    }

    /** What was known of two FACTS together is not known behind the TURN of one of them. */
    static void termMidnightWhatWasKnownOfThatFactAndAnother() {
        String alike = "a and b or not a and not b";
        Story story = new Story("facts 3 7;person 0 1 3 0;person 0 1 0 0;turn 0 1", "a or b", alike, "c", "b", "a");
        story.due("the bridge is told that they are alike", b -> b.cross(0, 1), 3);
        story.due("so is 1", b -> b.tell(0, 1, 1), -1);
        story.due("1 goes over by c", b -> b.cross(1, 2), 3);
        story.due("and is told it there", b -> b.tell(0, 1, 1), 4);
        story.due("midnight", TruthBridge::midnight, 1);
        story.each("the bridge: knows(-1, .)", (b, s) -> b.knows(-1, s), 0, 0, 1, 0, 0);
        story.each("1: knows(1, .)", (b, s) -> b.knows(1, s), 0, 0, 0, 0, 0);
        story.each("0, who knew both: knows(0, .)", (b, s) -> b.knows(0, s), 1, 0, 0, 1, 0);
        story.idle("but for c the bridge HOLDS all", b -> b.count(9), 4);
        story.idle("1 HOLDS all", b -> b.person(1, 5), 8);
    }

    static void termUndoNothing() {
        new Story().idle("without a LAND", TruthBridge::undo, -2);
        new Story("facts 1 1;person 0 1 0 0", "a").idle("without ACTS", TruthBridge::undo, -2);
    }

    static void termUndoTheLast20Acts() {
        for (int acts : new int[] {1, 19, 20, 21, 45}) {
            int can = Math.min(acts, 20);
            Story story = new Story("facts 1 1");
            for (int day = 1; day <= acts; day++) {
                story.due("midnight", TruthBridge::midnight, day);
            }
            story.idle("that can be UNDONE", b -> b.count(11), can);
            for (int left = can - 1; left >= 0; left--) {
                story.due("undo", TruthBridge::undo, left);
                story.idle("DAY", b -> b.count(8), acts - can + left);
                story.idle("that can be UNDONE", b -> b.count(11), left);
            }
            story.idle("no more", TruthBridge::undo, -2);
        }
    }

    static void termUndoEachOfTheFourActs() {
        Story story = new Story("facts 2 3;person 0 1 1 0;person 0 1 0 0;place 1;place 1;path 0 1 5;turn 0 1", "a", "not a");
        story.due("image", b -> b.image(0), 0);
        story.due("cross", b -> b.cross(0, 0), 3);
        asAtFirst(story.due("undo", TruthBridge::undo, 0));
        story.due("tell", b -> b.tell(0, 1, 0), 2);
        asAtFirst(story.due("undo", TruthBridge::undo, 0));
        story.due("look", b -> b.look(1, 1), 1);
        asAtFirst(story.due("undo", TruthBridge::undo, 0));
        story.due("midnight", TruthBridge::midnight, 1);
        asAtFirst(story.due("undo", TruthBridge::undo, 0));
        story.due("a fall", b -> b.cross(1, 1), 0);
        asAtFirst(story.due("undo", TruthBridge::undo, 0));
        story.idle("all is as in the IMAGE", b -> b.back(0), 0);
    }

    private static void asAtFirst(Story story) {
        story.each("person(0, .)", (b, w) -> b.person(0, w), 0, 1, 0, 0, 0, 2, 1);
        story.each("person(1, .)", (b, w) -> b.person(1, w), 0, 1, 0, 0, 0, 4, 0);
        story.idle("DAY", b -> b.count(8), 0);
        story.idle("FACTS", b -> b.count(1), 3);
        story.idle("WORLDS of the bridge", b -> b.count(9), 4);
    }

    static void termUndoHoursOfEachPerson() {
        Story story = new Story("facts 1 1" + ";person 0 1 0 0".repeat(6) + ";place 0;place 0;path 0 1 2", "not a");
        for (int p = 0; p < 6; p++) {
            int who = p;
            story.due("look", b -> b.look(who, 1), 1);
        }
        story.due("midnight", TruthBridge::midnight, 1);
        story.due("undo", TruthBridge::undo, 6);
        for (int p = 5; p >= 0; p--) {
            int who = p;
            story.idle("HOURS are gone again", b -> b.person(who, 3), 4);
            story.due("undo", TruthBridge::undo, p);
            story.idle("they never were", b -> b.person(who, 3), 0);
        }
    }

    static void termUndoRefusedActsDoNotCount() {
        Story story = new Story("facts 1 1;person 0 1 0 0;person 1 1 0 0;place 0;place 0", "a");
        story.due("cross", b -> b.cross(0, 0), 3);
        story.idle("cross", b -> b.cross(2, 0), -1);
        story.idle("tell", b -> b.tell(0, 1, 0), -1);
        story.idle("look", b -> b.look(0, 1), -1);
        story.idle("run", b -> b.run(0, 1), -1);
        story.idle("one can be UNDONE", b -> b.count(11), 1);
        story.due("that one", TruthBridge::undo, 0);
        story.idle("back on the first SIDE", b -> b.person(0, 0), 0);
    }

    static void termUndoWhatIsToldOfAnotherBridgeAndXStay() {
        Story story = new Story("facts 1 1;person 0 1 0 0", "a");
        story.due("cross", b -> b.cross(0, 0), 3);
        story.due("trial", b -> b.trial(0, true), 1);
        story.due("seed", b -> b.seed(5), 0);
        story.saying("not a", 1);
        story.due("undo", TruthBridge::undo, 0);
        story.idle("TRIALS", b -> b.count(10), 1);
        story.idle("x", b -> b.count(12), 5);
        story.idle("SAYINGS", b -> b.count(6), 2);
    }

    static void termByARuleNothingCanBeUndoneBehindIt() {
        Story story = new Story("facts 1 1;person 0 1 0 0", "a");
        story.rule("say 0", 0);
        story.due("midnight", TruthBridge::midnight, 1);
        story.idle("61 DAYS are refused", b -> b.run(0, 61), -1);
        story.idle("so it can be UNDONE", b -> b.count(11), 1);
        story.due("run", b -> b.run(0, 1), 0);
        story.idle("none can", TruthBridge::undo, -2);
        story.due("midnight", TruthBridge::midnight, 3);
        story.due("undo", TruthBridge::undo, 0);
        story.idle("no more", TruthBridge::undo, -2);
        story.idle("DAY", b -> b.count(8), 2);
    }

    static void termByARule1To60Days() {
        Story story = new Story("facts 1 1;person 0 1 0 0", "a");
        story.rule("say 1", 0);
        for (int n : new int[] {Integer.MIN_VALUE, -1, 0, 61, 62, Integer.MAX_VALUE}) {
            story.idle(n + " DAYS", b -> b.run(0, n), -1);
        }
        story.due("1 DAY", b -> b.run(0, 1), 1);
        story.idle("DAY", b -> b.count(8), 1);
        story.due("59 DAYS", b -> b.run(0, 59), 0);
        story.due("60 DAYS", b -> b.run(0, 60), 0);
        story.idle("DAY", b -> b.count(8), 120);
    }

    static void termByARuleUpToDay9999() {
        Story story = onDay(9939, "facts 1 1;person 0 1 0 0", "a");
        story.rule("say 1", 1);
        story.due("image", b -> b.image(0), 9939);
        story.due("60 DAYS", b -> b.run(1, 60), 1);
        story.idle("DAY", b -> b.count(8), 9999);
        story.idle("one more", b -> b.run(1, 1), -1);
        story.due("back", b -> b.back(0), 9939);
        story.due("a DAY", TruthBridge::midnight, 9940);
        story.idle("60 DAYS are too many", b -> b.run(1, 60), -1);
        story.idle("it can be UNDONE", b -> b.count(11), 1);
        story.due("59 DAYS", b -> b.run(1, 59), 1);
        story.idle("DAY", b -> b.count(8), 9999);
    }

    static void termByARuleOnlyASumAbove0() {
        for (String sum : new String[] {"0", "0-1", "1 if 1=2", "0 if 1=1;say 1"}) {
            Story story = new Story("facts 1 1;person 0 1 0 0", "a");
            story.rule("say " + sum, 0);
            story.due("run by " + sum, b -> b.run(0, 1), 0);
            story.idle("nothing was said", b -> b.count(9), 2);
        }
        Story story = new Story("facts 1 1;person 0 1 0 0", "a");
        story.rule("say 1", 0);
        story.due("run by 1", b -> b.run(0, 1), 1);
    }

    static void termByARuleOfSeveralTheLeast() {
        Story story = new Story("facts 3 7;person 0 1 0 0", "a", "b", "c");
        story.rule("say 7 if saying>0", 0);
        story.rule("say saying+1", 1);
        story.due("image", b -> b.image(0), 0);
        story.due("1 and 2 are as great", b -> b.run(0, 1), 1);
        story.idle("by 1", b -> b.knows(-1, 1) * 10 + b.knows(-1, 2), 10);
        story.due("back", b -> b.back(0), 0);
        story.due("2 is the greatest", b -> b.run(1, 1), 1);
        story.idle("by 2", b -> b.knows(-1, 1) * 10 + b.knows(-1, 2), 1);
    }

    static void termByARulePeopleByNumbers() {
        Story story = new Story("facts 2 3;person 0 1 0 0;person 0 1 0 0;person 0 1 0 0", "a", "b");
        story.rule("say gain", 0);
        story.due("0 by a, 1 by b, 2 by nothing", b -> b.run(0, 1), 2);
        story.idle("who is over", b -> b.person(0, 0) + 2 * b.person(1, 0) + 4 * b.person(2, 0), 3);
        Story falls = new Story("facts 1 1;person 0 1 0 0;person 0 1 0 0;person 0 1 0 0", "a", "not a");
        falls.rule("say 1", 0);
        falls.due("0 falls ahead", b -> b.cross(0, 1), 0);
        falls.due("1 goes over, 2 falls", b -> b.run(0, 1), 1);
        falls.idle("who is over", b -> b.person(0, 0) + 2 * b.person(1, 0) + 4 * b.person(2, 0), 2);
        falls.idle("nobody has FALLEN any more", b -> b.person(0, 4) + b.person(2, 4), 0);
    }

    static void termByARuleWithoutPeopleOrSayings() {
        Story story = new Story("facts 1 1;turn 0 1");
        story.rule("say 1", 0);
        story.due("without PEOPLE", b -> b.run(0, 1), 0);
        story.idle("it is MIDNIGHT nevertheless", b -> b.fact(0), 0);
        Story silent = new Story("facts 1 1;person 0 1 0 0;turn 0 2");
        silent.rule("say 1", 0);
        silent.due("without SAYINGS", b -> b.run(0, 2), 0);
        silent.idle("DAY", b -> b.count(8), 2);
        silent.idle("the other way", b -> b.fact(0), 0);
    }
}
