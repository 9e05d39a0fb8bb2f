/** Promises 1 to 38: arguments that are too small or too large, what isn't there, what is empty, what is full. */
final class PromiseEdgeTest {
    private static final int LEAST = Integer.MIN_VALUE;
    private static final int GREATEST = Integer.MAX_VALUE;

    public static void main(String[] args) throws ReflectiveOperationException {
        Check.cases(PromiseEdgeTest.class);
    }

    /** Of three people the first knows a and c, the second b; of three places the last can't be reached. */
    private static Story whole() {
        Story story = new Story("facts 3 5;person 0 2 5 7;person 1 1 2 0;person 0 1 0 99;place 1;place 2;place 0;path 0 1 3;"
                + "turn 0 2", "a", "not b", "c and not b", "a or b", "b");
        return story.rule("say 1 if saying=3", 0);
    }

    /** Without a LAND, but with SAYINGS and a RULE. */
    private static Story landless() {
        Story story = new Story();
        return story.saying("a", 0).saying("not a", 1).rule("say 1", 0);
    }

    static void promise1ANewObjectHasNothing() {
        Story story = new Story();
        story.row("count", TruthBridge::count, -1, 0, 0, 0, 0, 0, 0, 0, 0, 0, -1, 0, 0, 0, 0);
        story.idle("no TAPE", b -> b.end(1), -1);
        story.idle("end of nothing", b -> b.end(0), 0);
    }

    static void promise1TwoObjectsAreTwo() {
        Story one = whole();
        Story other = new Story();
        one.due("feed", b -> b.feed(0, 0, 0, 0, 0), 20);
        one.due("seed", b -> b.seed(4), 0);
        one.due("image", b -> b.image(0), 0);
        other.idle("no LAND", b -> b.count(0), 0);
        other.idle("no TAPE", b -> b.count(13), 0);
        other.idle("x", b -> b.count(12), 0);
        other.idle("no IMAGE", b -> b.back(0), -1);
    }

    static void promise2FeedUpTo400Bytes() {
        Story story = new Story();
        for (int many = 20; many <= 400; many += 20) {
            story.due("feed", b -> b.feed(0x20202020, 0x20202020, 0x20202020, 0x20202020, 0x20202020), many);
            story.idle("bytes of the TAPE", b -> b.count(13), many);
        }
        story.idle("20 more", b -> b.feed(0, 0, 0, 0, 0), -1);
        story.due("all but 19", b -> b.end(381), 381);
        story.idle("20 more would be 401", b -> b.feed(0, 0, 0, 0, 0), -1);
        story.idle("still", b -> b.count(13), 381);
        story.due("all but 20", b -> b.end(380), 380);
        story.due("20 more", b -> b.feed(0x20202020, 0x20202020, 0x20202020, 0x20202020, 0x20202021), 400);
        story.due("the last of them can't stand there", TruthBridge::saying, Check.fault(399, 0));
    }

    static void promise2FeedTheHighestFirst() {
        for (int at = 0; at < 20; at++) {
            int place = at;
            Story story = new Story("facts 8 1");
            int[] four = new int[5];
            java.util.Arrays.fill(four, 0x20202020);
            four[at / 4] ^= (0x20 ^ 0x61) << 24 - 8 * (at % 4);
            story.due("feed", b -> b.feed(four[0], four[1], four[2], four[3], four[4]), 20);
            story.due("a ends at " + (place + 1), b -> b.end(place + 1), at + 1);
            story.due("a", TruthBridge::saying, 0);
            story.idle("is so", b -> b.isTrue(0), 1);
        }
    }

    static void promise2FeedAnyNumbers() {
        Story story = new Story();
        story.due("numbers below 0", b -> b.feed(-1, LEAST, GREATEST, -2, 0), 20);
        story.due("a byte of 255 can't stand there", TruthBridge::saying, Check.fault(0, 0));
    }

    static void promise3EndUpToTheTape() {
        Story story = new Story();
        story.all("end of nothing", TruthBridge::end, -1, LEAST, -1, 1, 20, 400, GREATEST);
        story.idle("end(0) of nothing", b -> b.end(0), 0);
        story.due("feed", b -> b.feed(0x61206f72, 0x20622020, 0, 0, 0), 20);
        story.all("end of 20", TruthBridge::end, -1, LEAST, -2, -1, 21, 22, 400, GREATEST);
        story.idle("all of them", b -> b.end(20), 20);
        story.due("all but one", b -> b.end(19), 19);
        story.idle("20 there are no more", b -> b.end(20), -1);
        story.due("its first six", b -> b.end(6), 6);
        story.due("a or b", TruthBridge::saying, 0);
        story.due("feed", b -> b.feed(0x61206f72, 0x20622020, 0, 0, 0), 20);
        story.due("its first one", b -> b.end(1), 1);
        story.due("a", TruthBridge::saying, 1);
        story.due("feed", b -> b.feed(0x61206f72, 0x20622020, 0, 0, 0), 20);
        story.due("none", b -> b.end(0), 0);
        story.due("feed", b -> b.feed(0x61000000, 0, 0, 0, 0), 20);
    }

    static void promise4LandHowManyPeople() {
        for (int n = 0; n <= 6; n++) {
            new Story().land("facts 1 1" + ";person 0 1 0 0".repeat(n), n);
        }
    }

    static void promise4LandInPlaceOfTheOneThereWas() {
        Story story = whole();
        story.due("cross", b -> b.cross(1, 1), 3);
        story.due("midnight", TruthBridge::midnight, 1);
        story.due("trial", b -> b.trial(0, true), 1);
        story.due("seed", b -> b.seed(99), 0);
        story.due("image", b -> b.image(0), 1);
        story.land("facts 1 0", 0);
        story.row("count", TruthBridge::count, -1, 1, 0, 0, 0, 0, 0, 5, 1, 0, 2, 0, 0, 99, 0);
        story.idle("nothing to be UNDONE", TruthBridge::undo, -2);
        story.idle("no PERSON", b -> b.person(0, 0), -1);
        story.idle("no PLACE", b -> b.place(0), -1);
        story.idle("no way", b -> b.way(0, 0), -1);
        story.idle("no TURN", b -> b.when(0, 0), -2);
        story.due("the IMAGE stays", b -> b.back(0), 1);
        story.row("then count", TruthBridge::count, -1, 3, 5, 3, 3, 1, 1, 5, 1, 1, 4, 1, 2, 99, 0);
        story.due("and what can be UNDONE", TruthBridge::undo, 1);
        story.due("and that", TruthBridge::undo, 0);
        story.idle("nobody crossed", b -> b.person(1, 0), 1);
    }

    static void promise4AWrongLandStaysWithout() {
        landless().wrongLand("facts 1 2", 8, 1).wrongLand("", 0, 0).idle("no LAND", b -> b.count(9), -1);
    }

    static void promise5SayingsWithoutALand() {
        Story story = landless();
        story.wrongSaying("i", 0, 0);
        story.saying("a or not a", 2);
        story.idle("SAYINGS", b -> b.count(6), 3);
        story.land("facts 1 1", 0);
        story.idle("so", b -> b.isTrue(2), 1);
    }

    static void promise6RulesWithoutALand() {
        Story story = landless();
        story.wrongRule("say i", 4, 0);
        story.rule("say 2", 1);
        story.idle("RULES", b -> b.count(7), 2);
        story.idle("no LAND to run in", b -> b.run(1, 1), -1);
    }

    static void promise7PersonOfThoseThereAre() {
        Story story = whole();
        story.row("person(0, .)", (b, w) -> b.person(0, w), -1, 0, 2, 7, 0, 0, 2, 5);
        story.row("person(1, .)", (b, w) -> b.person(1, w), -1, 1, 1, 0, 0, 0, 4, 2);
        story.row("person(2, .)", (b, w) -> b.person(2, w), -1, 0, 1, 99, 0, 0, 8, 0);
        for (int what = -1; what <= 7; what++) {
            int w = what;
            story.all("person(., " + what + ")", (b, p) -> b.person(p, w), -1, LEAST, -2, -1, 3, 6, GREATEST);
        }
        landless().all("without a LAND", (b, p) -> b.person(p, 0), -1, -1, 0, 1);
    }

    static void promise7PersonWhatHasHappened() {
        Story story = whole();
        story.due("look", b -> b.look(0, 1), 1);
        story.due("look", b -> b.look(0, 0), 0);
        story.due("falls", b -> b.cross(0, 4), 0);
        story.row("person(0, .)", (b, w) -> b.person(0, w), -1, 0, 2, 7, 6, 1, 1, 7);
        story.due("tells itself over", b -> b.cross(1, 1), 3);
        story.row("person(1, .)", (b, w) -> b.person(1, w), -1, 0, 1, 0, 0, 0, 4, 2);
    }

    static void promise8FactOfTheLand() {
        whole().row("fact", TruthBridge::fact, -1, 1, 0, 1);
        new Story("facts 8 129").row("fact", TruthBridge::fact, -1, 1, 0, 0, 0, 0, 0, 0, 1);
        new Story("facts 1 0").row("fact", TruthBridge::fact, -1, 0);
        new Story("facts 8 255").all("fact", TruthBridge::fact, -1, 8, 31, 32, 33, 39);
        landless().row("fact", TruthBridge::fact, -1);
    }

    static void promise9PlaceOfTheLand() {
        whole().row("place", TruthBridge::place, -1, 1, 2, 0);
        new Story("facts 1 1").row("place", TruthBridge::place, -1);
        landless().row("place", TruthBridge::place, -1);
    }

    static void promise10WayBetweenTwoPlaces() {
        Story story = whole();
        story.row("way(0, .)", (b, k) -> b.way(0, k), -1, 0, 3, -2);
        story.row("way(1, .)", (b, k) -> b.way(1, k), -1, 3, 0, -2);
        story.row("way(2, .)", (b, k) -> b.way(2, k), -1, -2, -2, 0);
        story.row("way(., 0)", (b, k) -> b.way(k, 0), -1, 0, 3, -2);
        for (int k : new int[] {LEAST, -1, 3, GREATEST}) {
            story.row("way(" + k + ", .)", (b, i) -> b.way(k, i), -1);
        }
        new Story("facts 1 1;place 0").row("way", (b, k) -> b.way(k, k), -1, 0);
        new Story("facts 1 1").row("way", (b, k) -> b.way(k, k), -1);
        landless().row("way", (b, k) -> b.way(k, k), -1);
    }

    static void promise10WayTheLongest() {
        Story story = new Story("facts 1 1" + ";place 0".repeat(6) + ";path 0 1 9;path 1 2 9;path 2 3 9;path 3 4 9;path 4 5 9");
        story.row("way(0, .)", (b, k) -> b.way(0, k), -1, 0, 9, 18, 27, 36, 45);
        story.row("way(., 0)", (b, k) -> b.way(k, 0), -1, 0, 9, 18, 27, 36, 45);
        Story around = new Story("facts 1 1;place 0;place 0;place 0;place 0;path 0 1 4;path 0 2 5;path 1 2 9;path 3 0 1");
        around.row("way(1, .)", (b, k) -> b.way(1, k), -1, 4, 0, 9, 5);
        around.row("way(2, .)", (b, k) -> b.way(2, k), -1, 5, 9, 0, 6);
        Story shorter = new Story("facts 1 1" + ";place 0".repeat(6) + ";path 5 0 1;path 0 1 9;path 1 2 9;path 2 3 9;path 3 4 9;"
                + "path 4 5 9;path 1 0 8;path 0 1 9");
        shorter.row("way(0, .)", (b, k) -> b.way(0, k), -1, 0, 8, 17, 19, 10, 1);
    }

    static void promise11SoInAWorld() {
        Story story = whole();
        story.row("so(2, .)", (b, w) -> b.so(2, w), -1, 0, 0, 0, 0, 1, 1, 0, 0);
        story.row("so(., 5)", (b, s) -> b.so(s, 5), -1, 1, 1, 1, 1, 0);
        story.all("so(-1, .)", (b, w) -> b.so(-1, w), -1, -1, 0, 7, 8);
        new Story("facts 1 0", "a").row("so(0, .)", (b, w) -> b.so(0, w), -1, 0, 1);
        Story eight = new Story("facts 8 0", "h");
        eight.all("so(0, .)", (b, w) -> b.so(0, w), 0, 0, 1, 127);
        eight.all("so(0, .)", (b, w) -> b.so(0, w), 1, 128, 254, 255);
        eight.all("so(0, .)", (b, w) -> b.so(0, w), -1, -1, 256, 257, 511, LEAST, GREATEST);
        landless().row("without a LAND", (b, w) -> b.so(0, w), -1);
    }

    static void promise12IsTrueNow() {
        Story story = whole();
        story.row("isTrue", TruthBridge::isTrue, -1, 1, 1, 1, 1, 0);
        story.due("midnight", TruthBridge::midnight, 1);
        story.due("midnight", TruthBridge::midnight, 2);
        story.row("a has turned: isTrue", TruthBridge::isTrue, -1, 0, 1, 1, 0, 0);
        landless().row("without a LAND", TruthBridge::isTrue, -1);
    }

    static void promise13KnowsOfAPersonOrTheBridge() {
        Story story = whole();
        story.row("knows(0, .)", (b, s) -> b.knows(0, s), -2, 1, 0, 0, 1, 0);
        story.row("knows(1, .)", (b, s) -> b.knows(1, s), -2, 0, 1, 0, 0, 0);
        story.row("knows(2, .)", (b, s) -> b.knows(2, s), -2, 0, 0, 0, 0, 0);
        story.row("knows(-1, .)", (b, s) -> b.knows(-1, s), -2, 0, 0, 0, 0, 0);
        for (int p : new int[] {LEAST, -2, 3, 6, GREATEST}) {
            story.row("knows(" + p + ", .)", (b, s) -> b.knows(p, s), -2);
        }
        story.due("the bridge is told a or b", b -> b.cross(0, 3), 3);
        story.row("then knows(-1, .)", (b, s) -> b.knows(-1, s), -2, 0, 0, 0, 1, 0);
        landless().row("without a LAND", (b, s) -> b.knows(-1, s), -2);
    }

    static void promise14PossibleToAPersonOrTheBridge() {
        Story story = whole();
        story.row("possible(0, .)", (b, w) -> b.possible(0, w), -2, 0, 0, 0, 0, 0, 1, 0, 1);
        story.row("possible(1, .)", (b, w) -> b.possible(1, w), -2, 1, 1, 0, 0, 1, 1, 0, 0);
        story.row("possible(-1, .)", (b, w) -> b.possible(-1, w), -2, 1, 1, 1, 1, 1, 1, 1, 1);
        for (int p : new int[] {LEAST, -2, 3, 6, GREATEST}) {
            story.row("possible(" + p + ", .)", (b, w) -> b.possible(p, w), -2);
        }
        story.due("the bridge is told c and not b", b -> b.cross(2, 2), 3);
        story.row("then possible(-1, .)", (b, w) -> b.possible(-1, w), -2, 0, 0, 0, 0, 1, 1, 0, 0);
        landless().row("without a LAND", (b, w) -> b.possible(-1, w), -2);
    }

    static void promise15GainOfASaying() {
        Story story = whole();
        story.row("gain", TruthBridge::gain, -1, 4, 4, 6, 2, 4);
        story.due("the bridge is told c and not b", b -> b.cross(2, 2), 3);
        story.row("then gain", TruthBridge::gain, -1, 1, 0, 0, 1, 2);
        landless().row("without a LAND", TruthBridge::gain, -1);
    }

    static void promise16ShownOfASaying() {
        Story story = whole();
        story.row("shown", TruthBridge::shown, -1, 0, 2, 0, 0, 0);
        story.due("the bridge is told c and not b", b -> b.cross(2, 2), 3);
        story.row("then shown", TruthBridge::shown, -1, 4, -2, -2, 4, 4);
        landless().row("without a LAND", TruthBridge::shown, -1);
    }

    static void promise17CrossAnswers() {
        Story story = whole();
        story.due("it is not so", b -> b.cross(0, 4), 0);
        story.idle("they FELL", b -> b.cross(0, 3), -1);
        story.due("over", b -> b.cross(2, 3), 3);
        story.due("over, back", b -> b.cross(2, 0), 3);
        story.due("it was KNOWN", b -> b.cross(1, 3), 1);
        story.idle("they FELL", b -> b.cross(1, 1), -1);
        story.idle("ACTS", b -> b.count(11), 4);
        Story heavy = new Story("facts 2 3;person 0 4 0 0", "a and b");
        heavy.due("as far as the middle", b -> b.cross(0, 0), 2);
        heavy.due("it was KNOWN then", b -> b.cross(0, 0), 1);
        landless().all("without a LAND", (b, s) -> b.cross(0, s), -1, -1, 0, 1);
        new Story("facts 1 1", "a").row("without PEOPLE", (b, p) -> b.cross(p, 0), -1);
        new Story("facts 1 1;person 0 1 0 0").row("without SAYINGS", (b, s) -> b.cross(0, s), -1);
    }

    static void promise18TellAnswers() {
        Story story = whole();
        story.due("a", b -> b.tell(0, 2, 0), 4);
        story.due("a or b follows", b -> b.tell(0, 2, 3), 4);
        story.all("what 0 does not KNOW", (b, s) -> b.tell(0, 2, s), -1, LEAST, -1, 1, 2, 4, 5, GREATEST);
        story.all("to another one", (b, p) -> b.tell(0, p, 0), -1, LEAST, -1, 0, 1, 3, GREATEST);
        story.all("from another one", (b, p) -> b.tell(p, 2, 0), -1, LEAST, -1, 1, 2, 3, GREATEST);
        story.idle("ACTS", b -> b.count(11), 2);
        landless().all("without a LAND", (b, p) -> b.tell(0, p, 0), -1, -1, 0, 1);
    }

    static void promise19LookAnswers() {
        Story story = whole();
        story.due("b is not so", b -> b.look(2, 0), 0);
        story.due("c is so", b -> b.look(2, 1), 1);
        story.all("where there is no way", (b, k) -> b.look(2, k), -1, LEAST, -2, -1, 2, 3, 6, GREATEST);
        story.all("of nobody", (b, p) -> b.look(p, 0), -1, LEAST, -2, -1, 3, 6, GREATEST);
        story.idle("ACTS", b -> b.count(11), 2);
        landless().all("without a LAND", (b, k) -> b.look(0, k), -1, -1, 0, 1);
    }

    static void promise20MidnightAnswers() {
        Story story = whole();
        for (int day = 1; day <= 100; day++) {
            story.due("midnight", TruthBridge::midnight, day);
        }
        story.idle("DAY", b -> b.count(8), 100);
        landless().idle("without a LAND", TruthBridge::midnight, -1);
    }

    static void promise21UndoAnswers() {
        Story story = whole();
        story.idle("none can", TruthBridge::undo, -2);
        story.due("cross", b -> b.cross(2, 0), 3);
        story.due("tell", b -> b.tell(0, 2, 0), -1);
        story.due("look", b -> b.look(1, 1), 1);
        story.due("undo", TruthBridge::undo, 1);
        story.due("undo", TruthBridge::undo, 0);
        story.idle("none can", TruthBridge::undo, -2);
        landless().idle("without a LAND", TruthBridge::undo, -2);
    }

    static void promise22RunAnswers() {
        Story story = whole();
        story.all("of a RULE that isn't there", (b, r) -> b.run(r, 1), -1, LEAST, -2, -1, 1, 2, 6, GREATEST);
        story.all("of so many DAYS", (b, n) -> b.run(0, n), -1, LEAST, -1, 0, 61, GREATEST);
        story.due("0 by a or b, 1 and 2 fall", b -> b.run(0, 1), 1);
        story.idle("0 is over", b -> b.person(0, 0), 1);
        story.due("all fall", b -> b.run(0, 1), 0);
        story.due("60 DAYS with the TURN: it is not so", b -> b.run(0, 60), 0);
        landless().all("without a LAND", (b, n) -> b.run(0, n), -1, 0, 1, 60);
    }

    static void promise23FollowsFromASetOfThoseThereAre() {
        Story story = whole();
        int[] sets = {0, 1, 2, 4, 5, 15, 16, 31};
        int[] notB = {0, 0, 1, 1, 1, 1, 0, 1};
        for (int i = 0; i < sets.length; i++) {
            int set = sets[i];
            story.idle("follows(" + set + ", 1)", b -> b.follows(set, 1), notB[i]);
        }
        story.all("of another set", (b, set) -> b.follows(set, 1), -1, LEAST, -2, -1, 32, 33, 64, 1 << 24, GREATEST);
        story.row("follows(4, .)", (b, s) -> b.follows(4, s), -1, 0, 1, 1, 0, 0);
        landless().all("without a LAND", (b, set) -> b.follows(set, 0), -1, 0, 1, 3);
        new Story("facts 1 1").row("without SAYINGS", (b, s) -> b.follows(0, s), -1);
    }

    static void promise24FewestOfASetOfThoseThereAre() {
        Story story = whole();
        story.row("fewest(31, .)", (b, s) -> b.fewest(31, s), -1, 1, 2, 4, 1, 16);
        story.row("fewest(4, .)", (b, s) -> b.fewest(4, s), -1, -2, 4, 4, -2, -2);
        story.row("fewest(0, .)", (b, s) -> b.fewest(0, s), -1, -2, -2, -2, -2, -2);
        story.all("of another set", (b, set) -> b.fewest(set, 1), -1, LEAST, -2, -1, 32, 33, 64, 1 << 24, GREATEST);
        landless().all("without a LAND", (b, set) -> b.fewest(set, 0), -1, 0, 1, 3);
    }

    static void promise25OppositeOfTwoUnlike() {
        Story story = whole();
        story.row("opposite(4, .)", (b, s) -> s == 4 ? 7 : b.opposite(4, s), -1, 0, 1, 1, 0, 7);
        story.row("opposite(., 4)", (b, s) -> s == 4 ? 7 : b.opposite(s, 4), -1, 0, 1, 1, 0, 7);
        for (int s = -1; s <= 5; s++) {
            int told = s;
            story.idle("opposite(" + s + ", " + s + ")", b -> b.opposite(told, told), -1);
        }
        landless().all("without a LAND", (b, s) -> b.opposite(0, s), -1, 0, 1);
    }

    static void promise26WhenOfThoseThereAre() {
        Story story = whole();
        story.row("when(., 0)", (b, s) -> b.when(s, 0), -1, 0, 0, 0, 0, -2);
        story.row("when(., 2)", (b, s) -> b.when(s, 2), -1, -2, 2, 2, -2, -2);
        story.all("when(1, .)", (b, day) -> b.when(1, day), -1, LEAST, -1, 10000, GREATEST);
        landless().all("without a LAND", (b, day) -> b.when(0, day), -1, -1, 0, 9999);
    }

    static void promise27LeastOfThoseThereAre() {
        Story story = whole();
        story.row("least(., 0)", (b, p) -> b.least(p, 0), -1, 3, 1, -2);
        story.row("least(., 1)", (b, p) -> b.least(p, 1), -1, 0, 0, -2);
        story.row("least(0, .)", (b, w) -> b.least(0, w), -1, 3, 0);
        story.row("least(2, .)", (b, w) -> b.least(2, w), -1, -2, -2);
        landless().all("without a LAND", (b, p) -> b.least(p, 0), -1, -1, 0);
    }

    static void promise28PlanForASide() {
        Story story = whole();
        story.row("plan(0, .)", (b, w) -> b.plan(0, w), -1, 1, 0, 0, -2, -2, -2, -2, -2, -2);
        story.row("plan(1, .)", (b, w) -> b.plan(1, w), -1, 1, 1, 1, -2, -2, -2, -2, -2, -2);
        story.row("plan(., 0)", (b, side) -> b.plan(side, 0), -1, 1, 1);
        story.row("plan(2, .)", (b, w) -> b.plan(2, w), -1);
        story.row("plan(-1, .)", (b, w) -> b.plan(-1, w), -1);
        landless().row("without a LAND", (b, w) -> b.plan(0, w), -1);
    }

    static void promise29WalkOfThoseThereAre() {
        Story story = whole();
        story.row("walk(., 0)", (b, p) -> b.walk(p, 0), -1, 0, 0, 0);
        story.row("walk(., 1)", (b, p) -> b.walk(p, 1), -1, 0, 0, 1);
        story.row("walk(2, .)", (b, w) -> b.walk(2, w), -1, 0, 1);
        story.due("2 falls", b -> b.cross(2, 4), 0);
        story.row("then walk(2, .)", (b, w) -> b.walk(2, w), -1, -2, -2);
        landless().all("without a LAND", (b, p) -> b.walk(p, 0), -1, -1, 0);
    }

    static void promise30BoughtOfThoseThereAre() {
        Story story = whole();
        story.row("bought(., 0)", (b, p) -> b.bought(p, 0), -1, 0, 0, 0);
        story.row("bought(., 1)", (b, p) -> b.bought(p, 1), -1, 0, 0, 2);
        story.row("bought(2, .)", (b, w) -> b.bought(2, w), -1, 0, 2);
        story.due("2 falls", b -> b.cross(2, 4), 0);
        story.row("then bought(2, .)", (b, w) -> b.bought(2, w), -1, -2, -2);
        landless().all("without a LAND", (b, p) -> b.bought(p, 0), -1, -1, 0);
    }

    static void promise31TrialOfThoseThereAre() {
        Story story = whole();
        story.all("of no SAYING", (b, s) -> b.trial(s, true), -2, LEAST, -3, -2, 5, 6, 24, GREATEST);
        story.due("the last", b -> b.trial(4, false), 1);
        story.due("the first", b -> b.trial(0, true), 2);
        story.idle("TRIALS", b -> b.count(10), 2);
        story.due("none then", b -> b.trial(-1, true), 0);
        story.idle("none", b -> b.trial(-1, false), 0);
        Story none = landless();
        none.idle("none without a LAND", b -> b.trial(-1, true), 0);
        none.all("without a LAND", (b, s) -> b.trial(s, true), -2, LEAST, -2, 0, 1, 2);
        none.idle("no TRIALS", b -> b.count(10), 0);
    }

    static void promise32SetsWhat() {
        Story story = whole();
        story.row("sets", TruthBridge::sets, -1, 32, 0, 0);
        landless().row("without a LAND", TruthBridge::sets, -1);
        new Story("facts 1 1").row("without SAYINGS", TruthBridge::sets, -1, 1, 0, 0);
    }

    static void promise33NextWhat() {
        Story story = whole();
        story.row("next", TruthBridge::next, -1, 4, 16);
        landless().row("without a LAND", TruthBridge::next, -1);
        new Story("facts 1 1").row("without SAYINGS", TruthBridge::next, -1, -2, -2);
    }

    static void promise34SeedFrom0To2147483647() {
        Story story = new Story();
        story.idle("0 as at first", b -> b.seed(0), 0);
        story.due("1", b -> b.seed(1), 0);
        story.due("the greatest", b -> b.seed(GREATEST), 1);
        story.all("below 0", TruthBridge::seed, -1, LEAST, LEAST + 1, -2, -1);
        story.idle("x stays", b -> b.count(12), GREATEST);
        story.due("the greatest but one", b -> b.seed(GREATEST - 1), GREATEST);
        story.due("0", b -> b.seed(0), GREATEST - 1);
    }

    static void promise35YearsWhat() {
        Story story = new Story("facts 1 1;person 0 1 0 0", "a");
        story.row("years(10, 60, .)", (b, w) -> b.years(10, 60, w), -1, 10, 590, 10);
        story.row("years(1, 1, .)", (b, w) -> b.years(1, 1, w), -1, 1, 0, 1);
        story.all("m", (b, m) -> b.years(m, 1, 0), -1, LEAST, -1, 0, 11, GREATEST);
        story.all("n", (b, n) -> b.years(1, n, 0), -1, LEAST, -1, 0, 61, GREATEST);
        landless().row("without a LAND", (b, w) -> b.years(1, 1, w), -1);
    }

    static void promise36CountWhat() {
        Story story = whole();
        story.due("cross", b -> b.cross(0, 3), 3);
        story.due("midnight", TruthBridge::midnight, 1);
        story.due("trial", b -> b.trial(1, false), 1);
        story.due("seed", b -> b.seed(GREATEST), 0);
        story.due("feed", b -> b.feed(0, 0, 0, 0, 0), 20);
        story.row("count", TruthBridge::count, -1, 3, 5, 3, 3, 1, 1, 5, 1, 1, 6, 1, 2, GREATEST, 20);
        landless().row("count", TruthBridge::count, -1, 0, 0, 0, 0, 0, 0, 2, 1, 0, -1, 0, 0, 0, 0);
    }

    static void promise37ImageOfNothingTold() {
        Story story = new Story();
        story.all("another IMAGE", TruthBridge::image, -1, LEAST, -2, -1, 4, 5, GREATEST);
        story.due("of nothing", b -> b.image(0), 0);
        story.land("facts 2 3;person 0 1 0 0", 1);
        story.saying("a", 0);
        story.due("cross", b -> b.cross(0, 0), 3);
        story.due("midnight", TruthBridge::midnight, 1);
        story.due("trial", b -> b.trial(0, true), 1);
        story.due("seed", b -> b.seed(3), 0);
        story.due("of that", b -> b.image(3), 1);
        story.due("back to nothing", b -> b.back(0), 0);
        story.row("count", TruthBridge::count, -1, 0, 0, 0, 0, 0, 0, 1, 0, 0, -1, 0, 0, 0, 0);
        story.idle("no LAND", TruthBridge::midnight, -1);
        story.idle("nothing to be UNDONE", TruthBridge::undo, -2);
        story.due("and back", b -> b.back(3), 1);
        story.row("then count", TruthBridge::count, -1, 2, 3, 1, 0, 0, 0, 1, 0, 1, 2, 1, 2, 3, 0);
    }

    static void promise37ImageMadeAnew() {
        Story story = whole();
        story.due("midnight", TruthBridge::midnight, 1);
        story.due("image", b -> b.image(1), 1);
        story.due("midnight", TruthBridge::midnight, 2);
        story.due("anew", b -> b.image(1), 2);
        story.due("midnight", TruthBridge::midnight, 3);
        story.due("back", b -> b.back(1), 2);
        story.idle("once more", b -> b.back(1), 2);
        story.idle("ACTS", b -> b.count(11), 2);
    }

    static void promise38BackToWhatWasNeverMade() {
        Story story = whole();
        story.due("cross", b -> b.cross(2, 3), 3);
        story.due("image", b -> b.image(2), 0);
        story.due("midnight", TruthBridge::midnight, 1);
        story.all("back", TruthBridge::back, -1, LEAST, -2, -1, 0, 1, 3, 4, GREATEST);
        story.due("back", b -> b.back(2), 0);
        story.idle("DAY", b -> b.count(8), 0);
        story.idle("who is over", b -> b.person(2, 0), 1);
        story.all("back", TruthBridge::back, -1, LEAST, -2, -1, 0, 1, 3, 4, GREATEST);
    }

    static void term512CallsOfOneObject() {
        Story story = new Story();
        story.land("facts 1 1;person 0 1 0 0", 1);
        for (int i = 4; i < 510; i++) {
            int x = i;
            story.due("seed", b -> b.seed(x), i == 4 ? 0 : i - 1);
        }
        story.due("the 511th call", TruthBridge::midnight, 1);
        story.due("the 512th call", TruthBridge::undo, 0);
    }
}
