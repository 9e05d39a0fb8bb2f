/** Terms: what a FAULT is, where it is, and which one is answered where there are several. */
final class FaultEdgeTest {
    private static final String LETTERS = "a" + " and b".repeat(23);
    private static final String VALUES = "say 1" + "+1".repeat(59);

    public static void main(String[] args) throws ReflectiveOperationException {
        Check.cases(FaultEdgeTest.class);
    }

    private static void land(String text, int want) {
        TruthBridge b = new TruthBridge();
        Check.due("land " + text, Check.land(b, text), want);
        Check.due("the TAPE behind it", b.count(13), 0);
    }

    private static void saying(String text, int want) {
        TruthBridge b = new TruthBridge();
        Check.due("saying " + text, Check.saying(b, text), want);
        Check.due("the TAPE behind it", b.count(13), 0);
    }

    private static void rule(String text, int want) {
        TruthBridge b = new TruthBridge();
        Check.due("rule " + text, Check.rule(b, text), want);
        Check.due("the TAPE behind it", b.count(13), 0);
    }

    private static boolean isSmall(int c) {
        return c >= 'a' && c <= 'z';
    }

    private static boolean isDigit(int c) {
        return c >= '0' && c <= '9';
    }

    static void termFault0EachByteAlone() {
        for (int c = 0; c < 256; c++) {
            String text = "" + (char) c;
            int none = Check.fault(c == ' ' ? 1 : 0, 0);
            land(text, none);
            rule(text, none);
            saying(text, c >= 'a' && c <= 'h' ? 0 : c == '[' ? Check.fault(1, 0) : none);
        }
    }

    static void termFault0EachByteBehindALand() {
        for (int c = 0; c < 256; c++) {
            int want = Check.fault(c == ';' ? 10 : 9, 0);
            if (c == ' ' || c == '0' || c == '1') {
                want = 0;
            } else if (isDigit(c)) {
                want = Check.fault(8, 1);
            }
            land("facts 1 0" + (char) c, want);
        }
    }

    static void termFault0EachByteBehindASaying() {
        for (int c = 0; c < 256; c++) {
            saying("a" + (char) c, c == ' ' ? 0 : Check.fault(isSmall(c) ? 0 : 1, 0));
            saying("not " + (char) c, c >= 'a' && c <= 'h' ? 0 : Check.fault(c == '[' || c == ' ' ? 5 : 4, 0));
        }
    }

    static void termFault0EachByteBehindARule() {
        for (int c = 0; c < 256; c++) {
            boolean goesOn = "+-*/%;".indexOf(c) >= 0;
            rule("say 1" + (char) c, c == ' ' || isDigit(c) ? 0 : Check.fault(goesOn ? 6 : 5, 0));
            boolean ends = c == ' ' || "+-*/%<=>".indexOf(c) >= 0;
            rule("say 1 if 1" + (char) c, Check.fault(ends || isDigit(c) ? 11 : 10, 0));
        }
    }

    static void termFault0EachByteWhereASignIsDue() {
        for (int c = 0; c < 256; c++) {
            boolean sign = c == '<' || c == '=' || c == '>';
            boolean sum = c == '+' || c == '-' || c == '*' || c == '/' || c == '%' || c == ' ' || isDigit(c);
            int want = sign ? 0 : Check.fault(10, 0);
            if (sum) {
                want = Check.fault(c == ' ' ? 11 : 12, 0);
            }
            rule("say 1 if 1" + (char) c + "1", want);
        }
    }

    static void termFault0EndIsBehindTheLastByte() {
        land("", -3);
        land("facts", -2 - 1 - 8 * 5);
        land("facts   ", -2 - 1 - 8 * 8);
        saying("a and", -2 - 1 - 8 * 5);
        saying("[a  ", -2 - 1 - 8 * 4);
        rule("say 1 if 1<", -2 - 1 - 8 * 11);
        rule("say 1 if 1<=", -2 - 1 - 8 * 12);
        rule("say 1 if 1>=", -2 - 1 - 8 * 12);
        rule("say 1 if 1>= ", -2 - 1 - 8 * 13);
        rule("say 1 if [1<1", -2 - 1 - 8 * 13);
    }

    static void termFaultIs1And8TimesItsPlaceAndItsKind() {
        land("x", -3);
        land("turn", -7);
        land("facts 9 0", -2 - (1 + 8 * 6 + 1));
        saying("[".repeat(11), -2 - (1 + 8 * 10 + 2));
        saying(LETTERS + " or a", -2 - (1 + 8 * 143 + 3));
        rule("say 1;".repeat(12) + "say", -2 - (1 + 8 * 72 + 4));
    }

    static void termFaultAtTheLastBytes() {
        land(" ".repeat(399) + "x", -3195);
        land(" ".repeat(400), -3203);
        land("facts" + " ".repeat(394) + "9", -3196);
        land(" ".repeat(396) + "turn", -3175);
        saying(" ".repeat(399) + "x", -3195);
        saying(" ".repeat(389) + "[".repeat(11), -3197);
        saying(LETTERS + " and" + " ".repeat(400 - LETTERS.length() - 5) + "h", -3198);
        rule("say 1;".repeat(12) + " ".repeat(325) + "say", -3183);
        rule("say" + " ".repeat(391) + "100000", -2 - (1 + 8 * 394 + 1));
        rule(VALUES + " ".repeat(399 - VALUES.length() - 1) + "+1", -3198);
    }

    static void termFaultTheFirstAlongTheText() {
        land("facts 9 x", Check.fault(6, 1));
        land("facts x 9", Check.fault(6, 0));
        land("facts 1 2;facts 1 0", Check.fault(8, 1));
        land("facts 1 0;facts 9 9", Check.fault(10, 4));
        land("facts 1 0;person 2 0 0 0", Check.fault(17, 1));
        land("facts 1 0;person 0 0 9 100", Check.fault(19, 1));
        land("facts 1 0.facts 1 0", Check.fault(9, 0));
        saying("i and [", Check.fault(0, 0));
        saying("a b" + " and c".repeat(24), Check.fault(2, 0));
        saying("[".repeat(11) + LETTERS, Check.fault(10, 2));
        saying(LETTERS + " and " + "not ".repeat(11) + "a", Check.fault(144 + 40, 2));
        saying(LETTERS + " and a and " + "[".repeat(11), Check.fault(144, 3));
        rule("say 100000 if gone", Check.fault(4, 1));
        rule("say gone if 100000=1", Check.fault(4, 0));
        rule("say 1 if " + "[".repeat(11) + "100000", Check.fault(19, 2));
        rule("say 1 if 100000" + "[".repeat(11), Check.fault(9, 1));
        rule("say 1;".repeat(11) + "say 1 1;say 1", Check.fault(72, 0));
        rule(VALUES + "+1 if " + "[".repeat(11), Check.fault(124, 3));
        rule("say 1 if 1=1]" + "+1".repeat(60), Check.fault(12, 0));
    }

    static void termFaultTheLeastOfOnePlace() {
        saying(LETTERS + " and i", Check.fault(144, 0));
        saying(LETTERS + " and aa", Check.fault(144, 0));
        saying(LETTERS + " and A", Check.fault(144, 0));
        saying("[".repeat(10) + "(", Check.fault(10, 0));
        rule(VALUES + "+100000", Check.fault(124, 1));
        rule(VALUES + "+000000", Check.fault(124, 1));
        rule(VALUES + "+gains", Check.fault(124, 0));
        rule(VALUES + "+[", Check.fault(124, 0));
        rule(VALUES.substring(0, 121) + " if 1?1", Check.fault(126, 0));
        rule("say 1;".repeat(12) + "saying 1", Check.fault(72, 0));
        land("facts 1 0" + ";person 0 1 0 0".repeat(6) + ";persons 0 1 0 0", Check.fault(100, 0));
        land("facts 1 0" + ";turn 0 1".repeat(8) + ";2", Check.fault(82, 0));
        land("place", Check.fault(0, 4));
        land("places", Check.fault(0, 0));
        land("facts 1 999999", Check.fault(8, 1));
    }

    static void termFaultIn400SignsOfOneByteEach() {
        for (char c : new char[] {';', '=', '<', '>', ']', '\u00ff', '\u0000'}) {
            String text = ("" + c).repeat(400);
            land(text, Check.fault(0, 0));
            saying(text, Check.fault(0, 0));
            rule(text, Check.fault(0, 0));
            land("facts 1 0" + text.substring(9), Check.fault(c == ';' ? 10 : 9, 0));
            saying("a" + text.substring(1), Check.fault(1, 0));
            rule("say 1" + text.substring(5), Check.fault(c == ';' ? 6 : 5, 0));
        }
        saying("[".repeat(400), Check.fault(10, 2));
        rule("say1if" + "[".repeat(394), Check.fault(16, 2));
    }

    static void termFault1ANumberWhereItCannotStand() {
        land("1", Check.fault(0, 0));
        land("1234567", Check.fault(0, 0));
        land("facts 1 0 1234567", Check.fault(10, 0));
        saying("1", Check.fault(0, 0));
        saying("a 1234567", Check.fault(2, 0));
        rule("1234567", Check.fault(0, 0));
        rule("say 1 1234567", Check.fault(6, 0));
        rule("say 1 if 1=1 1234567", Check.fault(13, 0));
    }
}
