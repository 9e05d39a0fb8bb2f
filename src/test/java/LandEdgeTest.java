/** Terms: how long a LAND may be, how much of each kind it may tell, and the bounds of each NUMBER in it. */
final class LandEdgeTest {
    private static final String FULL = "facts 8 170;person 0 1 0 0;person 1 128 255 99;person 0 2 3 4;person 1 5 6 7;"
            + "person 0 8 9 10;person 1 11 12 13;place 0;place 1;place 2;place 3;place 4;place 7;path 0 1 1;path 1 2 9;"
            + "path 2 3 2;path 3 4 3;path 4 5 4;path 0 1 5;path 0 2 6;path 0 3 7;path 0 4 8;path 0 5 9;turn 0 1;"
            + "turn 7 99;turn 0 1;turn 1 2;turn 2 3;turn 3 4;turn 4 5;turn 5 6";

    public static void main(String[] args) throws ReflectiveOperationException {
        Check.cases(LandEdgeTest.class);
    }

    private static void right(String text) {
        new Story(text);
    }

    /** A FAULT, where much has been told before: all that stays. */
    private static void wrong(String text, int place, int kind) {
        Story story = new Story("facts 2 1;person 0 1 1 3;person 1 2 0 4;place 1;place 0;path 0 1 2;turn 1 1", "a", "not b");
        story.rule("say gain", 0);
        story.due("look", b -> b.look(0, 1), 1);
        story.due("midnight", TruthBridge::midnight, 1);
        story.due("trial", b -> b.trial(1, true), 1);
        story.due("seed", b -> b.seed(77), 0);
        story.due("image", b -> b.image(1), 1);
        story.wrongLand(text, place, kind);
        Story.settleAll();
    }

    /** A NUMBER: on its bounds and just inside it is right, just outside it is a FAULT. */
    private static void bounds(String ahead, int least, int most, String behind) {
        int at = ahead.length();
        for (int value : new int[] {least, Math.min(least + 1, most), Math.max(most - 1, least), most}) {
            right(ahead + value + behind);
            right(ahead + String.format("%05d", value) + behind);
            wrong(ahead + String.format("%06d", value) + behind, at, 1);
        }
        if (least > 0) {
            wrong(ahead + (least - 1) + behind, at, 1);
        }
        wrong(ahead + "-1" + behind, at, 0);
        wrong(ahead + (most + 1) + behind, at, 1);
        wrong(ahead + "99999" + behind, at, 1);
        wrong(ahead + "4294967296" + behind, at, 1);
        wrong(ahead + "x" + behind, at, 0);
        wrong(ahead + ";" + behind, at, 0);
        wrong(ahead, at, 0);
    }

    static void termLandOfNoBytes() {
        wrong("", 0, 0);
    }

    static void termLandOfBlanksAlone() {
        wrong(" ", 1, 0);
        wrong(" ".repeat(400), 400, 0);
    }

    static void termLandOf400Bytes() {
        int more = 400 - FULL.length();
        right(" ".repeat(more - 1) + FULL);
        right(" ".repeat(more) + FULL);
        right(FULL + " ".repeat(more));
        wrong(FULL + " ".repeat(more - 1) + ";", 400, 0);
        wrong(FULL + " ".repeat(more - 1) + ".", 399, 0);
        Story story = new Story();
        story.tape(FULL + " ".repeat(more));
        story.idle("no byte comes behind them", b -> b.feed(0x20202020, 0, 0, 0, 0), -1);
        story.due("it is read nevertheless", TruthBridge::land, 6);
    }

    static void termLandBlanksBetween() {
        right("  facts  8   170  ;  person   0  1  2  3  ;  turn 0   1  ");
        right("facts8 170;person0 1 2 3;place0;place1;path0 1 2;turn0 1");
        wrong("fa cts 8 170", 0, 0);
        wrong("facts 8 1 70", 10, 0);
        wrong("facts 8\t170", 7, 0);
        wrong("facts 8 170;person 0 12 3", 25, 0);
    }

    static void termLandClausesUpToAllOfEachKind() {
        Story story = new Story(FULL);
        story.row("count", TruthBridge::count, -1, 8, 170, 6, 6, 10, 8, 0, 0, 0, 256, 0, 0, 0, 0);
        String most = FULL.replace("person 0 1 0 0", "person0 1 0 0");
        for (String clause : new String[] {"person 0 1 0 0", "place 0", "path 0 1 1", "turn 0 1", "facts 8 0"}) {
            wrong(most + ";" + clause, most.length() + 1, 4);
        }
        wrong(most + ";", most.length() + 1, 0);
    }

    static void termLandFactsOnce() {
        right("facts 1 0");
        wrong("facts 1 0;facts 1 0", 10, 4);
        wrong("facts 1 0; facts", 11, 4);
        wrong("facts 1 0;place 0;turn 0 1;facts 2 0", 27, 4);
    }

    static void termLandFactsFirst() {
        wrong("person 0 1 0 0;facts 1 0", 0, 4);
        wrong("place 0;facts 1 0", 0, 4);
        wrong("path 0 1 1;facts 1 0", 0, 4);
        wrong("  turn 0 1;facts 1 0", 2, 4);
        wrong("turn", 0, 4);
        wrong(";facts 1 0", 0, 0);
    }

    static void termLandHowManyFacts1To8() {
        bounds("facts ", 1, 8, " 0");
        for (int n = 1; n <= 8; n++) {
            int facts = n;
            Story story = new Story("facts " + n + " 0");
            story.idle("count(0)", b -> b.count(0), facts);
            story.idle("the last FACT", b -> b.fact(facts - 1), 0);
            story.idle("one more", b -> b.fact(facts), -1);
        }
    }

    static void termLandWhichFactsAsBits() {
        for (int n = 1; n <= 8; n++) {
            int all = (1 << n) - 1;
            bounds("facts " + n + " ", 0, all, "");
            new Story("facts " + n + " " + all).idle("all are so", b -> b.count(1), all);
            new Story("facts " + n + " 0").idle("none is so", b -> b.count(1), 0);
        }
    }

    static void termLandPersonSide0Or1() {
        bounds("facts 2 1;person ", 0, 1, " 1 0 0");
        new Story("facts 2 1;person 0 1 0 0").idle("side", b -> b.person(0, 0), 0);
        new Story("facts 2 1;person 1 1 0 0").idle("side", b -> b.person(0, 0), 1);
    }

    static void termLandPersonWeight1To128() {
        bounds("facts 2 1;person 0 ", 1, 128, " 0 0");
        new Story("facts 2 1;person 0 1 0 0").idle("weight", b -> b.person(0, 1), 1);
        new Story("facts 2 1;person 0 128 0 0").idle("weight", b -> b.person(0, 1), 128);
    }

    static void termLandPersonKnowsFactsAsBits() {
        for (int n = 1; n <= 8; n++) {
            int all = (1 << n) - 1;
            bounds("facts " + n + " 1;person 1 128 ", 0, all, " 99");
            Story story = new Story("facts " + n + " 1;person 0 1 0 0;person 0 1 " + all + " 0");
            story.idle("who knows none", b -> b.person(0, 6), 0);
            story.idle("who knows all", b -> b.person(1, 6), all);
        }
    }

    static void termLandPersonPrice0To99() {
        bounds("facts 2 1;person 0 1 3 ", 0, 99, "");
        new Story("facts 2 1;person 0 1 0 0").idle("price", b -> b.person(0, 2), 0);
        new Story("facts 2 1;person 0 1 0 99").idle("price", b -> b.person(0, 2), 99);
    }

    static void termLandPlaceOfAFactOfTheLand() {
        for (int n = 1; n <= 8; n++) {
            int last = n - 1;
            bounds("facts " + n + " 0;place ", 0, last, "");
            new Story("facts " + n + " 0;place 0;place " + last).idle("the last", b -> b.place(1), last);
        }
    }

    static void termLandPathBetweenPlacesThatWereTold() {
        for (int n = 2; n <= 6; n++) {
            String places = "facts 1 0" + ";place 0".repeat(n);
            for (int one = 0; one < n; one++) {
                right(places + ";path " + one + " " + (one == 0 ? n - 1 : 0) + " 5");
                right(places + ";path " + (one == 0 ? n - 1 : 0) + " " + one + " 5");
                wrong(places + ";path " + one + " " + one + " 5", places.length() + 8, 1);
            }
            wrong(places + ";path " + n + " 0 5", places.length() + 6, 1);
            wrong(places + ";path 0 " + n + " 5", places.length() + 8, 1);
            wrong(places + ";path -1 0 5", places.length() + 6, 0);
            wrong(places + ";path 0 -1 5", places.length() + 8, 0);
            wrong(places + ";path 000001 0 5", places.length() + 6, 1);
            wrong(places + ";path 0 000001 5", places.length() + 8, 1);
        }
    }

    static void termLandPathFromThePlace0() {
        right("facts 1 0;place 0;place 0;path 0 1 5");
        right("facts 1 0;place 0;place 0;path 1 0 5");
        right("facts 1 0;place 0;place 0;path 00000 00001 5");
    }

    static void termLandPathWithoutPlaces() {
        wrong("facts 1 0;path 0 1 1", 15, 1);
        wrong("facts 1 0;path 0 1 1;place 0;place 0", 15, 1);
        wrong("facts 1 0;place 0;path 0 1 1;place 0", 25, 1);
        wrong("facts 1 0;place 0;path 1 0 1;place 0", 23, 1);
        right("facts 1 0;place 0;place 0;path 0 1 1;place 0;path 2 0 1");
    }

    static void termLandPathToASecondPlaceThatIsTheFirst() {
        wrong("facts 1 0;place 0;place 0;path 1 1 1", 33, 1);
        wrong("facts 1 0;place 0;place 0;path 1 00001 1", 33, 1);
        wrong("facts 1 0;place 0;place 0;path 0  0", 34, 1);
        wrong("facts 1 0;place 0;place 0;path 1 2 1", 33, 1);
        right("facts 1 0;place 0;place 0;path 1 0 1");
    }

    static void termLandPathHours1To9() {
        bounds("facts 1 0;place 0;place 0;path 0 1 ", 1, 9, "");
        new Story("facts 1 0;place 0;place 0;path 0 1 1").idle("hours", b -> b.way(0, 1), 1);
        new Story("facts 1 0;place 0;place 0;path 0 1 9").idle("hours", b -> b.way(0, 1), 9);
    }

    static void termLandTurnOfAFactOfTheLand() {
        for (int n = 1; n <= 8; n++) {
            int last = n - 1;
            bounds("facts " + n + " 0;turn ", 0, last, " 1");
            Story story = new Story("facts " + n + " 0;turn " + last + " 1");
            story.due("midnight", TruthBridge::midnight, 1);
            story.idle("the last FACT alone", b -> b.count(1), 1 << last);
        }
    }

    static void termLandTurnDay1To99() {
        bounds("facts 1 0;turn 0 ", 1, 99, "");
        Story first = new Story("facts 1 0;turn 0 1");
        first.idle("DAY 0", b -> b.fact(0), 0);
        first.due("midnight", TruthBridge::midnight, 1);
        first.idle("DAY 1", b -> b.fact(0), 1);
        Story last = new Story("facts 1 0;turn 0 99");
        for (int i = 1; i <= 98; i++) {
            last.due("midnight", TruthBridge::midnight, i);
        }
        last.idle("DAY 98", b -> b.fact(0), 0);
        last.due("midnight", TruthBridge::midnight, 99);
        last.idle("DAY 99", b -> b.fact(0), 1);
        last.due("midnight", TruthBridge::midnight, 100);
        last.idle("DAY 100", b -> b.fact(0), 1);
    }

    static void termLandPeople0To5() {
        most("person 0 1 0 0", 2, 6);
        Story story = new Story("facts 1 0;person 0 1 0 9;person 0 2 0 8;person 0 3 0 7;person 0 4 0 6;person 0 5 0 5;"
                + "person 0 6 0 4");
        story.row("weight", (b, p) -> b.person(p, 1), -1, 1, 2, 3, 4, 5, 6);
        story.row("price", (b, p) -> b.person(p, 2), -1, 9, 8, 7, 6, 5, 4);
    }

    static void termLandPlaces0To5() {
        most("place 0", 3, 6);
        Story story = new Story("facts 6 0;place 5;place 4;place 3;place 2;place 1;place 0");
        story.row("place", TruthBridge::place, -1, 5, 4, 3, 2, 1, 0);
    }

    static void termLandPaths0To9() {
        most("path 0 1 1", 4, 10);
    }

    static void termLandTurns0To7() {
        most("turn 0 1", 5, 8);
    }

    /** Up to so many CLAUSES of a kind are right; one more is a FAULT at its first byte. */
    private static void most(String clause, int what, int most) {
        String ahead = what == 4 ? "facts 1 0;place 0;place 0" : "facts 1 0";
        for (int n : new int[] {0, 1, most - 1, most}) {
            new Story(ahead + (";" + clause).repeat(n)).idle("count", b -> b.count(what), n);
        }
        String full = ahead + (";" + clause).repeat(most);
        wrong(full + ";" + clause, full.length() + 1, 4);
        wrong(full + ";  " + clause.substring(0, clause.indexOf(' ')), full.length() + 3, 4);
        wrong(full + ";" + clause + ";" + clause, full.length() + 1, 4);
    }

    static void termLandInTheOrderTold() {
        Story story = new Story("facts 3 1;turn 2 1;place 2;person 1 7 1 5;turn 0 2;place 1;path 1 0 4;person 0 8 2 6");
        story.idle("person 0", b -> b.person(0, 1), 7);
        story.idle("person 1", b -> b.person(1, 1), 8);
        story.idle("place 0", b -> b.place(0), 2);
        story.idle("place 1", b -> b.place(1), 1);
        story.idle("way", b -> b.way(0, 1), 4);
    }

    static void termLandItIsDay0() {
        Story story = new Story("facts 1 0;person 0 1 0 0;place 0;place 0;path 0 1 3", "a");
        story.idle("DAY", b -> b.count(8), 0);
        story.due("midnight", TruthBridge::midnight, 1);
        story.due("look", b -> b.look(0, 1), 0);
        story.due("cross", b -> b.cross(0, 0), 0);
        story.land("facts 1 1;person 0 1 0 0;place 0;place 0;path 0 1 3", 1);
        story.idle("DAY of another LAND", b -> b.count(8), 0);
        story.idle("no HOURS are gone", b -> b.person(0, 3), 0);
        story.idle("nobody FELL", b -> b.person(0, 4), 0);
        story.idle("they KNOW nothing", b -> b.person(0, 5), 2);
    }

    static void termLandTheBridgeIsAtPlace0() {
        Story story = new Story("facts 2 3;person 1 1 0 0;place 1;place 0;place 0;path 1 2 1;path 0 1 9", "a", "b");
        story.idle("place 0 takes no HOURS", b -> b.walk(0, 1), 1);
        story.due("so it is seen", b -> b.look(0, 0), 1);
        story.due("place 1 takes 9 there and 9 back", b -> b.look(0, 1), 1);
        story.idle("HOURS", b -> b.person(0, 3), 18);
    }
}
