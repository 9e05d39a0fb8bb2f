/** Terms: how long RULES may be, how much one may hold and how deep, how SUMS go round, what WORDS may mean. */
final class RuleEdgeTest {
    // As a SUM: the least number of 64 bits; 1 less is the greatest.
    private static final String LEAST = "32768*32768*32768*32768*8";

    public static void main(String[] args) throws ReflectiveOperationException {
        Check.cases(RuleEdgeTest.class);
    }

    private static Story rules(String... texts) {
        Story story = new Story("facts 2 1;person 0 2 0 7", "a");
        for (int i = 0; i < texts.length; i++) {
            story.rule(texts[i], i);
        }
        return story;
    }

    private static void right(String text) {
        rules(text);
    }

    /** A FAULT between two right RULES: it takes no number. */
    private static void wrong(String text, int place, int kind) {
        Story story = rules("say gain");
        story.wrongRule(text, place, kind);
        story.rule("say 1", 1);
    }

    /** One crosses by a RULE just if its SUM is above 0. */
    private static void above(String sum) {
        rules(sum).due("run by " + sum, b -> b.run(0, 1), 1);
    }

    private static void notAbove(String sum) {
        Story story = rules(sum);
        story.due("run by " + sum, b -> b.run(0, 1), 0);
        story.idle("nobody said anything", b -> b.count(9), 4);
    }

    private static void holds(String test) {
        above("say 1 if " + test);
        notAbove("say 1 if not [" + test + "]");
    }

    private static void fails(String test) {
        notAbove("say 1 if " + test);
        above("say 1 if not [" + test + "]");
    }

    static void termRuleOfNoBytes() {
        wrong("", 0, 0);
        wrong("  ", 2, 0);
        wrong("say", 3, 0);
    }

    static void termRuleOf400Bytes() {
        right("say" + " ".repeat(396) + "1");
        right(" ".repeat(395) + "say 1");
        right("say 1" + " ".repeat(395));
        wrong("say 1" + " ".repeat(394) + ";", 400, 0);
        wrong("say 1" + " ".repeat(394) + "!", 399, 0);
        Story story = rules();
        story.tape("say " + " ".repeat(390) + "weight");
        story.idle("no byte comes behind them", b -> b.feed(0, 0, 0, 0, 0), -1);
        story.due("it is read nevertheless", TruthBridge::rule, 0);
    }

    static void termRuleClausesUpTo12() {
        for (int n : new int[] {1, 11, 12}) {
            right("say 1;".repeat(n - 1) + "say 1");
        }
        String never = "say 1 if 1=2;".repeat(11);
        above(never + "say 1");
        above(never + "say 1 if 1=1");
        notAbove(never + "say 1 if 1=2");
        notAbove(never + "say 0");
        notAbove("say 0;" + "say 1;".repeat(10) + "say 1");
    }

    static void termRule13thClauseIsAFaultAtItsFirstByte() {
        String most = "say 1;".repeat(12);
        wrong(most + "say 1", 72, 4);
        wrong(most + "  say", 74, 4);
        wrong(most + "say 1;say 1", 72, 4);
        wrong(most, 72, 0);
        wrong(most + "sayy 1", 72, 0);
        wrong(most + "if", 72, 0);
    }

    static void termRuleNumberOf1To5Digits() {
        right("say 0");
        right("say 9999");
        right("say 99999");
        right("say 00000");
        holds("99999=33333*3");
        holds("00007=7");
        wrong("say 100000", 4, 1);
        wrong("say 000000", 4, 1);
        wrong("say 1+ 123456+1", 7, 1);
        wrong("say 1 if 1=1234567890123", 11, 1);
        wrong("say 1 if 999999 ! 1", 9, 1);
        wrong("say 1 123456", 6, 0);
    }

    static void termRuleWordsGoOnAsFarAsSmallLetters() {
        String[] words = {"person", "side", "weight", "saying", "knows", "gain", "left", "here", "day", "price"};
        for (String word : words) {
            right("say " + word);
            right("say " + word + "*2if " + word + "=" + word);
            wrong("say " + word + "s", 4, 0);
            wrong("say " + word.substring(1), 4, 0);
            wrong("say " + word.substring(0, word.length() - 1), 4, 0);
            wrong("say " + word + "1", 4 + word.length(), 0);
        }
        wrong("say facts", 4, 0);
        wrong("say a", 4, 0);
        wrong("say not", 4, 0);
        wrong("saygain", 0, 0);
        right("say1");
    }

    static void termRuleDeep10() {
        for (int nots = 0; nots <= 9; nots++) {
            String open = "say 1 if " + "not ".repeat(nots) + "[".repeat(9 - nots);
            String closed = "]".repeat(9 - nots);
            right(open + "1=1" + closed);
            right(open + "[1=1]" + closed);
            right(open + "not 1=1" + closed);
            wrong(open + "[[1=1]]" + closed, open.length() + 1, 2);
            wrong(open + "[not 1=1]" + closed, open.length() + 1, 2);
            wrong(open + "not [1=1]" + closed, open.length() + 4, 2);
            wrong(open + "not not 1=1" + closed, open.length() + 4, 2);
            wrong(open + "not not", open.length() + 4, 2);
        }
    }

    static void termRuleDeepEndsWithItsFact() {
        String ten = "[".repeat(10) + "1=1" + "]".repeat(10);
        right("say 1 if " + ten + " and " + ten + " or " + ten);
        right("say 1 if " + "not ".repeat(10) + "1=1 and [1=1]");
        right("say 1 if " + ten + ";say 2 if " + ten);
        wrong("say 1 if " + ten + " and " + "[".repeat(11), 9 + 23 + 5 + 10, 2);
    }

    static void termRuleDeep10WithMuchAheadOfEachBracket() {
        String nine = "1=2 or 1=1 and [".repeat(9);
        String closed = "]".repeat(9);
        above("say 1 if " + nine + "0=1-1*1" + closed);
        notAbove("say 1 if " + nine + "0=1-1*2" + closed);
        above("say 1 if " + nine + "not 0=2-1*1" + closed);
        notAbove("say 1 if " + nine.replace("1=1", "2=1") + "0=1-1*1" + closed);
        wrong("say 1 if " + nine + "0=1-1*1+1" + closed, 9 + nine.length() + 8, 3);
    }

    static void termRuleValuesUpTo60() {
        for (int n : new int[] {1, 59, 60}) {
            right("say 1" + "+1".repeat(n - 1));
            right("say gain" + "*gain".repeat(n - 1));
        }
        right("say 1" + "+1".repeat(29) + ";say 1" + "+1".repeat(29));
        right("say 1;".repeat(11) + "say 1" + "+1".repeat(48));
    }

    static void termRule61stValueIsAFaultAtItsFirstByte() {
        String most = "say 1" + "+1".repeat(59);
        wrong(most + "+1", 124, 3);
        wrong(most + "+ gain", 125, 3);
        wrong(most + "+1+1", 124, 3);
        wrong(most + ";say 1", 128, 3);
        wrong(most + " if 1=1", 127, 3);
        wrong(most + " if [not 99999=1]", 132, 3);
        wrong("say 1;".repeat(11) + "say 1" + "+1".repeat(49), 66 + 4 + 98, 3);
    }

    static void termRuleFactsMadeOfASignCountToo() {
        right("say 1" + "+1".repeat(56) + " if 1=1");
        right("say 1" + "+1".repeat(53) + " if 1=1 or 1=1");
        right("say 1+1+1 if 1=1" + " or 1=1".repeat(18));
        wrong("say 1+1+1+1 if 1=1" + " or 1=1".repeat(18), 18 + 18 * 7 - 1, 3);
        wrong("say 1" + "+1".repeat(57) + " if 1=1", 5 + 114 + 6, 3);
        wrong("say 1 if 1=1" + " or 1=1".repeat(19), 9 + 19 * 7 + 2, 3);
    }

    static void termRule61stThatIsAFactIsAFaultAtItsSign() {
        String ahead = "say 1" + "+1".repeat(58) + " if ";
        int at = ahead.length() + 1;
        for (String sign : new String[] {"<", "<=", "=", ">=", ">"}) {
            wrong(ahead + "1" + sign + "1", at, 3);
            wrong(ahead + "1  " + sign + " 1", at + 2, 3);
        }
        wrong(ahead + "1!1", at, 0);
        wrong(ahead + "1", at, 0);
        wrong(ahead + "1+1=1", at + 1, 3);
    }

    static void termRuleOtherSignsAndWordsDoNotCount() {
        right("say 1" + "+1".repeat(56) + " if not [not [1=1]]");
        String tests = "[1=1] and not [[1=1]] or not not 1=1";
        right("say 1" + "+1".repeat(50) + " if " + tests);
        wrong("say 1" + "+1".repeat(51) + " if " + tests, 5 + 102 + 4 + tests.length() - 1, 3);
    }

    static void termRuleValuesAreCountedAnewInEach() {
        Story story = rules("say 1" + "+1".repeat(59));
        story.wrongRule("say 1" + "+1".repeat(60), 124, 3);
        story.rule("say 1" + "+1".repeat(59), 1);
    }

    static void termRuleSigns() {
        String[] sums = {"6", "7", "8"};
        String[] signs = {"<", "<=", "=", ">=", ">"};
        boolean[][] holds = {{true, true, false, false, false}, {false, true, true, true, false},
            {false, false, false, true, true}};
        for (int i = 0; i < 3; i++) {
            for (int k = 0; k < 5; k++) {
                String test = sums[i] + signs[k] + "7";
                if (holds[i][k]) {
                    holds(test);
                } else {
                    fails(test);
                }
            }
        }
    }

    static void termRuleSignsBelow0() {
        holds("0-1<0");
        holds("0-2<0-1");
        holds("0-1>=0-1");
        fails("0-1>0");
        holds(LEAST + "<0");
        holds(LEAST + "-1>0");
    }

    static void termRuleDivisionBy0() {
        holds("7/0=0");
        holds("7%0=0");
        holds("0/0=0");
        holds("0%0=0");
        holds("7/day=0");
        holds("7%day=0");
        holds(LEAST + "/0=0");
        holds("7/1=7");
        holds("7%1=0");
        holds("5-7/0*3=5");
        holds("7/0+1=1");
    }

    static void termRuleDivisionTowards0() {
        holds("7/2=3");
        holds("7%2=1");
        holds("6/7=0");
        holds("6%7=6");
        holds("0/7=0");
        holds(LEAST + "/10*10-" + LEAST + "=8");
        holds(LEAST + "%10=0-8");
        holds(LEAST + "%7=0-1");
        holds(LEAST + "/32768/32768/32768/32768=0-8");
        holds(LEAST + "/32768/32768/32768/32768/5=0-1");
        holds(LEAST + "/32768/32768/32768/32768/9=0");
    }

    static void termRuleSumsGoRoundIn64Bits() {
        notAbove("say " + LEAST);
        above("say " + LEAST + "-1");
        notAbove("say " + LEAST + "-1+1");
        above("say " + LEAST + "-1+1-1");
        holds(LEAST + "*2=0");
        holds(LEAST + "+" + LEAST + "=0");
        holds(LEAST + "-1+" + LEAST + "-1=0-2");
        holds("0-" + LEAST + "=" + LEAST);
        holds("32768*32768*32768*32768*16=0");
        holds("32768*32768*32768*32768*16+1=1");
        above("say 32768*32768*32768*32768*7");
        notAbove("say 32768*32768*32768*32768*9");
    }

    static void termRuleTermsBindNearerAndGoFromTheLeft() {
        holds("9-3-2=4");
        holds("9-3+2=8");
        holds("2+3*4=14");
        holds("2*3+4=10");
        holds("24/4/2=3");
        holds("24/4*2=12");
        holds("7*3/2=10");
        holds("7%4*2=6");
        holds("20-7%4*2-1=13");
    }

    static void termRuleTestsBindAsSayingsDo() {
        holds("1=1 or 1=2 and 1=2");
        fails("[1=1 or 1=2] and 1=2");
        holds("1=2 and 1=2 or 1=1");
        fails("1=2 or 1=2 or 1=2");
        holds("1=1 or 1=1");
        holds("1=1 or 1=1 or 1=1");
        fails("[1=1 or 1=1] and [1=2 or 1=2]");
        holds("1=2 or 1=2 or 1=1");
        fails("1=1 and 1=1 and 1=2");
        holds("not 1=2 and 1=1");
        fails("not 1=1 or 1=2");
    }

    static void termRuleWordsAtTheirLeast() {
        for (String word : new String[] {"person=0", "side=0", "saying=0", "knows=0", "here=0", "day=0"}) {
            holds(word);
        }
        Story story = new Story("facts 1 1;person 0 1 0 0", "a");
        story.rule("say 1 if weight=1 and price=0 and gain=1 and left=2", 0);
        story.rule("say 1 if left=1 and gain=0", 1);
        story.due("the lightest, the cheapest", b -> b.run(0, 1), 1);
        story.due("what is KNOWN makes one fall", b -> b.years(1, 1, 1), 1);
        story.due("one WORLD is left, nothing is gained", b -> b.run(1, 1), 0);
        story.idle("it is the next DAY", b -> b.person(0, 4), 0);
    }

    static void termRuleWordsAtTheirGreatest() {
        String all = "a and b and c and d and e and f and g and h";
        Story story = new Story("facts 8 255" + ";person 1 128 255 99".repeat(6));
        for (int i = 0; i < 23; i++) {
            story.saying("a", i);
        }
        story.saying(all, 23);
        story.rule("say 1 if person=5 and side=1 and weight=128 and saying=23 and knows=1 and gain=255 and left=256 and "
                + "here=5 and price=99", 0);
        story.due("the last PERSON by the last SAYING", b -> b.run(0, 1), 1);
        story.idle("is over", b -> b.person(5, 0), 0);
        story.idle("nobody else", b -> b.person(4, 0), 1);
        story.idle("the bridge KNOWS it all", b -> b.count(9), 1);
    }

    static void termRuleWordDayAtTheLast() {
        Story story = new Story("facts 1 1;person 0 1 0 0", "a");
        story.rule("say 1 if day=9998", 0);
        story.days(0, 9997);
        story.due("DAY 9997", b -> b.run(0, 1), 0);
        story.due("DAY 9998", b -> b.run(0, 1), 1);
        story.due("no DAY more", b -> b.run(0, 1), -1);
    }

    static void termRuleWordHereCountsWhoFellToo() {
        Story story = new Story("facts 2 1;person 0 1 1 0;person 0 1 0 0;person 1 1 0 0;person 0 1 0 0", "a", "b");
        story.rule("say 1 if person=0 and here=2", 0);
        story.due("falls", b -> b.cross(1, 1), 0);
        story.due("two others are here", b -> b.run(0, 1), 1);
    }

    static void termRuleShorterThanTheOneAhead() {
        Story story = rules("say 7;".repeat(11) + "say 7", "say 1 if 1=2", "say 0;say 1", "say 1 if 1=2;say 1 if 1=2;say 0");
        for (int i = 1; i <= 3; i++) {
            int r = i;
            story.due("run by " + i, b -> b.run(r, 1), 0);
        }
        story.due("run by 0", b -> b.run(0, 1), 1);
    }

    static void termRules0To5() {
        Story story = rules();
        for (int i = 0; i < 5; i++) {
            story.rule("say 1", i);
        }
        story.idle("the next isn't there yet", b -> b.run(5, 1), -1);
        story.wrongRule("say", 3, 0);
        story.rule("say weight", 5);
        story.idle("six", b -> b.count(7), 6);
        story.idle("no other is there", b -> b.run(6, 1), -1);
        story.due("the last", b -> b.run(5, 1), 1);
    }

    static void promise6ASeventhRuleIsNone() {
        Story story = rules("say 1", "say 2", "say 3", "say 4", "say 5", "say 6");
        story.idle("with an empty TAPE", TruthBridge::rule, -1);
        story.tape("b");
        story.idle("with a text", TruthBridge::rule, -1);
        story.idle("the TAPE stays", b -> b.count(13), 1);
        story.idle("six there are", b -> b.count(7), 6);
        story.due("the text is a SAYING as it was", TruthBridge::saying, 1);
    }
}
