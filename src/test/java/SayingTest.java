/** Promise 5: saying, and the FAULTS of its text; promise 11: so. */
final class SayingTest {
    public static void main(String[] args) {
        meanings();
        faults();
        limits();
        twentyFour();
        Check.finish("SayingTest");
    }

    private static void meanings() {
        means("a", "10101010");
        means("not a", "01010101");
        means("not not a", "10101010");
        means("a and b", "10001000");
        means("a or b", "11101110");
        means("a or b and c", "11101010");
        means("[a or b] and c", "11100000");
        means("not a and b", "01000100");
        means("not [a and b]", "01110111");
        means("a and not a", "00000000");
        means("a or not a", "11111111");
        means(" not[ a ]or[b]and not c ", "01011101");
        means("d", "00000000");
        means("not h or a", "11111111");
    }

    /** The worlds 7 to 0 of a land of three facts. */
    private static void means(String text, String worlds) {
        TruthBridge b = Check.bridge("facts 3 0", text);
        for (int world = 0; world < 8; world++) {
            Check.due(text + ": so(0, " + world + ")", b.so(0, world), worlds.charAt(7 - world) - '0');
        }
        Check.due(text + ": so(0, 8)", b.so(0, 8), -1);
        Check.due(text + ": so(0, -1)", b.so(0, -1), -1);
        Check.due(text + ": so(1, 0)", b.so(1, 0), -1);
        Check.due(text + ": so(-1, 0)", b.so(-1, 0), -1);
    }

    private static void due(String text, int want) {
        TruthBridge b = new TruthBridge();
        Check.due("saying " + text, Check.saying(b, text), want);
        Check.due("saying " + text + ": tape", b.count(13), 0);
        Check.due("saying " + text + ": sayings", b.count(6), want < 0 ? 0 : 1);
    }

    private static void faults() {
        due("", Check.fault(0, 0));
        due("  ", Check.fault(2, 0));
        due("i", Check.fault(0, 0));
        due("A", Check.fault(0, 0));
        due("ab", Check.fault(0, 0));
        due("az", Check.fault(0, 0));
        due("a{", Check.fault(1, 0));
        due("a`", Check.fault(1, 0));
        due("nota", Check.fault(0, 0));
        due("a orb", Check.fault(2, 0));
        due("a b", Check.fault(2, 0));
        due("a a", Check.fault(2, 0));
        due("a or", Check.fault(4, 0));
        due("a or  ", Check.fault(6, 0));
        due("a and or b", Check.fault(6, 0));
        due("and a", Check.fault(0, 0));
        due("a not b", Check.fault(2, 0));
        due("[a", Check.fault(2, 0));
        due("[]", Check.fault(1, 0));
        due("[a]]", Check.fault(3, 0));
        due("a]", Check.fault(1, 0));
        due("a[b]", Check.fault(1, 0));
        due("a;b", Check.fault(1, 0));
        due("a = b", Check.fault(2, 0));
        due("1", Check.fault(0, 0));
        due("a 123456", Check.fault(2, 0));
        due("not", Check.fault(3, 0));
        due("not and", Check.fault(4, 0));
        due("a\n", Check.fault(1, 0));
        due("\u00e1", Check.fault(0, 0));
        due("a or say", Check.fault(5, 0));
    }

    private static void limits() {
        due("[".repeat(10) + "a" + "]".repeat(10), 0);
        due("[".repeat(11) + "a" + "]".repeat(11), Check.fault(10, 2));
        due("not ".repeat(10) + "a", 0);
        due("not ".repeat(11) + "a", Check.fault(40, 2));
        due("not [".repeat(5) + "a" + "]".repeat(5) + " and [[a]]", 0);
        due("not [".repeat(5) + "not a", Check.fault(25, 2));
        due("not [".repeat(5) + "a or [a]", Check.fault(30, 2));
        due("[".repeat(10) + "i", Check.fault(10, 0));
        due("a" + " and a".repeat(23), 0);
        due("a" + " and a".repeat(24), Check.fault(24 * 6, 3));
        due("a" + " or a".repeat(23) + " or not a", Check.fault(24 * 5 + 4, 3));
        due("a" + " or a".repeat(23) + " or i", Check.fault(24 * 5, 0));
        due("a" + " or a".repeat(23) + " or aa", Check.fault(24 * 5, 0));
        due("a" + " or a".repeat(23) + " or", Check.fault(24 * 5 - 1, 0));
        due(" ".repeat(399) + "h", 0);
    }

    private static void twentyFour() {
        TruthBridge b = new TruthBridge();
        for (int i = 0; i < 24; i++) {
            Check.due("saying " + i, Check.saying(b, "a"), i);
            Check.due("a wrong one between", i < 23 ? Check.saying(b, "z") : Check.fault(0, 0), Check.fault(0, 0));
        }
        Check.due("a 25th", Check.saying(b, "a"), -1);
        Check.due("its tape stays", b.count(13), 1);
        Check.due("a wrong 25th", Check.saying(b, ""), -1);
        Check.due("sayings", b.count(6), 24);
    }
}
