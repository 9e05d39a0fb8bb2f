/** Terms: how long SAYINGS may be, how many letters and how deep, and how many SAYINGS there are. */
final class SayingEdgeTest {
    private static final String LAND = "facts 3 5;person 0 1 5 0";

    public static void main(String[] args) throws ReflectiveOperationException {
        Check.cases(SayingEdgeTest.class);
    }

    private static void right(String text) {
        new Story(LAND, text);
    }

    /** A FAULT between two right SAYINGS: it takes no number. */
    private static void wrong(String text, int place, int kind) {
        Story story = new Story(LAND, "a or b");
        story.wrongSaying(text, place, kind);
        story.saying("b", 1);
    }

    /** In which of the WORLDS 0 to 7 a SAYING is so. */
    private static void means(String text, int worlds) {
        Story story = new Story(LAND, text);
        for (int w = 0; w < 8; w++) {
            int world = w;
            story.idle(text + " in the world " + w, b -> b.so(0, world), worlds >> w & 1);
        }
    }

    private static String opened(int deep, int nots) {
        return "not ".repeat(nots) + "[".repeat(deep - nots);
    }

    static void termSayingOfNoBytes() {
        wrong("", 0, 0);
        wrong("    ", 4, 0);
    }

    static void termSayingOf400Bytes() {
        right(" ".repeat(399) + "a");
        right("a" + " ".repeat(399));
        right("not" + " ".repeat(396) + "a");
        wrong(" ".repeat(397) + "not", 400, 0);
        wrong(" ".repeat(398) + "a.", 399, 0);
        wrong(" ".repeat(396) + "a or", 400, 0);
        Story story = new Story(LAND);
        story.tape(" ".repeat(399) + "a");
        story.idle("no byte comes behind them", b -> b.feed(0, 0, 0, 0, 0), -1);
        story.due("it is read nevertheless", TruthBridge::saying, 0);
    }

    static void termSayingLettersAToH() {
        Story story = new Story("facts 8 0", "a", "b", "c", "d", "e", "f", "g", "h");
        for (int i = 0; i < 8 * 256; i++) {
            int s = i / 256;
            int w = i % 256;
            story.asked("letter " + s + " in " + w, b -> b.so(s, w), w >> s & 1);
        }
        for (char c = 'i'; c <= 'z'; c++) {
            wrong("" + c, 0, 0);
            wrong("a and " + c, 6, 0);
        }
        for (char c : "`{@AHIZ09\\^_".toCharArray()) {
            wrong("" + c, 0, 0);
            wrong("not " + c, 4, 0);
        }
    }

    static void termSayingLetterThatTheLandHasNot() {
        for (int n = 1; n <= 7; n++) {
            int last = n - 1;
            int all = (1 << n) - 1;
            Story story = new Story("facts " + n + " " + all, "" + (char) ('a' + n), "not " + (char) ('a' + n),
                    "" + (char) ('a' + last), "h", "not h");
            for (int w : new int[] {0, all}) {
                story.idle("the letter behind the last", b -> b.so(0, w), 0);
                story.idle("not that letter", b -> b.so(1, w), 1);
                story.idle("the last letter", b -> b.so(2, w), w >> last & 1);
                story.idle("h", b -> b.so(3, w), 0);
                story.idle("not h", b -> b.so(4, w), 1);
            }
            story.idle("it is not so now", b -> b.isTrue(0), 0);
            story.land("facts " + (n + 1) + " " + (2 * all + 1), 0);
            story.idle("a LAND that has it", b -> b.isTrue(0), 1);
            story.idle("in a WORLD of that", b -> b.so(0, all), 0);
        }
    }

    static void termSayingWordsGoOnAsFarAsSmallLetters() {
        wrong("nota", 0, 0);
        wrong("not aa", 4, 0);
        wrong("a andb", 2, 0);
        wrong("a orb", 2, 0);
        wrong("aor b", 0, 0);
        wrong("an", 0, 0);
        wrong("o", 0, 0);
        wrong("n", 0, 0);
        wrong("nots a", 0, 0);
        wrong("a An b", 2, 0);
        right("not[a]and[b]or[c]");
        right("[a]or b");
    }

    static void termSayingDeep10() {
        for (int nots = 0; nots <= 9; nots++) {
            String closed = "]".repeat(9 - nots);
            right(opened(9, nots) + "a" + closed);
            right(opened(10, nots) + "a]" + closed);
            right(opened(9, nots) + "not a" + closed);
        }
    }

    static void termSayingDeep11IsAFaultAtTheSignThatOpens() {
        for (int nots = 0; nots <= 10; nots++) {
            String open = opened(10, nots);
            wrong(open + "[a", open.length(), 2);
            wrong(open + "[", open.length(), 2);
        }
        for (int nots = 0; nots < 10; nots++) {
            String open = opened(10, nots);
            wrong(open + "a or [a]", open.length() + 5, 2);
        }
    }

    static void termSayingDeep11IsAFaultAtTheWordNot() {
        for (int nots = 0; nots <= 10; nots++) {
            String open = opened(10, nots);
            wrong(open + "not a", open.length(), 2);
            wrong(open + " not", open.length() + 1, 2);
            wrong(open + "nota", open.length(), 0);
        }
    }

    static void termSayingDeepEndsWithItsFact() {
        String ten = "[".repeat(10) + "a" + "]".repeat(10);
        right(ten + " and " + ten + " or " + ten);
        right("not ".repeat(10) + "a or [a]");
        right("not ".repeat(10) + "a and " + "not ".repeat(10) + "b or " + "not ".repeat(10) + "c");
        right("[not a and not b or [[c]]]" + " and " + ten);
        right("[".repeat(9) + "[a] and [b] or not a and not b" + "]".repeat(9));
        wrong("[".repeat(9) + "[a] and not [b]", 21, 2);
        wrong("[".repeat(9) + "not a and not not b", 23, 2);
        wrong(ten + " and " + "[".repeat(11), 36, 2);
    }

    static void termSayingLettersUpTo24() {
        for (int n : new int[] {1, 23, 24}) {
            right("a" + " and b".repeat(n - 1));
            right("a" + " or b".repeat(n - 1));
            right("[a]" + "or[b]".repeat(n - 1));
            right("not a" + " and not b".repeat(n - 1));
        }
    }

    static void termSaying25thLetterIsAFaultAtIt() {
        wrong("a" + " and b".repeat(24), 24 * 6, 3);
        wrong("a" + " or b".repeat(24), 24 * 5, 3);
        wrong("[a]" + "or[b]".repeat(24), 24 * 5 + 1, 3);
        wrong("a" + " and b".repeat(23) + " and not not  h", 24 * 6 + 9, 3);
        wrong("a" + " and b".repeat(25), 24 * 6, 3);
        wrong("a" + " or b".repeat(23) + " or", 24 * 5 - 1, 0);
        wrong("a" + " or b".repeat(23) + " or i", 24 * 5, 0);
        wrong("a" + " or b".repeat(23) + " or ab", 24 * 5, 0);
        wrong("a" + " or b".repeat(23) + " b", 24 * 5 - 3, 0);
    }

    static void termSayingLettersAreCountedAnewInEach() {
        Story story = new Story(LAND);
        String most = "a" + " or b".repeat(23);
        story.saying(most, 0);
        story.wrongSaying(most + " or c", 120, 3);
        story.saying(most, 1);
    }

    static void termSayingNotBindsNearerThanAndNearerThanOr() {
        means("a or b and c", 0b11101010);
        means("b and c or a", 0b11101010);
        means("[a or b] and c", 0b11100000);
        means("not a or b", 0b11011101);
        means("not [a or b]", 0b00010001);
        means("not a and b", 0b01000100);
        means("not not a", 0b10101010);
        means("a and not a", 0);
        means("a or not a", 255);
    }

    static void termSayings0To23() {
        Story story = new Story(LAND);
        for (int i = 0; i < 23; i++) {
            story.saying("a", i);
        }
        story.idle("24 less one", b -> b.count(6), 23);
        story.idle("the next isn't there yet", b -> b.isTrue(23), -1);
        story.wrongSaying("i", 0, 0);
        story.saying("c", 23);
        story.idle("24", b -> b.count(6), 24);
        story.idle("the last", b -> b.so(23, 4), 1);
        story.idle("no other is there", b -> b.isTrue(24), -1);
    }

    static void promise5A25thSayingIsNone() {
        Story story = new Story(LAND);
        for (int i = 0; i < 24; i++) {
            story.saying("b", i);
        }
        story.idle("with an empty TAPE", TruthBridge::saying, -1);
        story.tape("say day");
        story.idle("with a right or a wrong text", TruthBridge::saying, -1);
        story.idle("the TAPE stays", b -> b.count(13), 7);
        story.idle("24 there are", b -> b.count(6), 24);
        story.due("the text is a RULE as it was", TruthBridge::rule, 0);
    }
}
