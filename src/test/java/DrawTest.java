/** Promises 34 and 35: seed, years. */
final class DrawTest {
    public static void main(String[] args) {
        seeds();
        years();
        yearsGoOn();
        withoutSayings();
        beyondTheLastDay();
        Check.finish("DrawTest");
    }

    private static void seeds() {
        TruthBridge b = new TruthBridge();
        Check.due("at first", b.seed(5), 0);
        Check.due("then", b.seed(Integer.MAX_VALUE), 5);
        Check.due("below 0", b.seed(-1), -1);
        Check.due("the least", b.seed(Integer.MIN_VALUE), -1);
        Check.due("it stays", b.count(12), Integer.MAX_VALUE);
        Check.due("0", b.seed(0), Integer.MAX_VALUE);
    }

    /** From x = 0 the draws are 0, 21468, 9988, 22117, ..: even, even, even, odd. */
    private static void years() {
        TruthBridge b = Check.bridge("facts 2 3;person 0 2 0 0;person 0 1 0 0", "a", "b");
        Check.due("both by a: one over", b.years(1, 1, 0), 1);
        Check.due("the other fell", b.years(1, 1, 1), 1);
        Check.due("worlds", b.years(1, 1, 2), 2);
        Check.due("two days: a falls, b bears only the second", b.years(1, 2, 0), 2);
        Check.due("two days: falls", b.years(1, 2, 1), 2);
        Check.due("two days: worlds", b.years(1, 2, 2), 1);
        Check.due("two years: x goes on", b.years(2, 1, 0), 3);
        Check.due("two years: falls", b.years(2, 1, 1), 1);
        Check.due("two years: worlds", b.years(2, 1, 2), 3);
        Check.due("nothing changed: x", b.count(12), 0);
        Check.due("nothing changed: day", b.count(8), 0);
        Check.due("nothing changed: worlds", b.count(9), 4);
        Check.due("nothing changed: side", b.person(0, 0), 0);
        Check.due("m 0", b.years(0, 1, 0), -1);
        Check.due("m 11", b.years(11, 1, 0), -1);
        Check.due("n 0", b.years(1, 0, 0), -1);
        Check.due("n 61", b.years(1, 61, 0), -1);
        Check.due("what 3", b.years(1, 1, 3), -1);
        Check.due("what -1", b.years(1, 1, -1), -1);
        Check.due("most", b.years(10, 60, 2), 10);
        Check.due("without a land", new TruthBridge().years(1, 1, 0), -1);
    }

    /** Who fell today does not cross on the first day. */
    private static void yearsGoOn() {
        TruthBridge b = Check.bridge("facts 1 1;person 0 1 0 0;person 0 1 0 0;turn 0 1", "a");
        b.cross(0, 0);
        Check.due("fell", b.cross(1, 0), 1);
        Check.due("only the first draws, and falls", b.years(1, 1, 1), 1);
        Check.due("the turn frees the world", b.years(1, 1, 2), 2);
        Check.due("then a is not so", b.years(1, 2, 1), 3);
        TruthBridge c = Check.bridge("facts 1 1;person 0 1 0 0", "not a", "a");
        c.seed(1);
        long x = 1;
        int over = 0;
        int fell = 0;
        for (int year = 0; year < 10; year++) {
            boolean known = false;
            for (int day = 0; day < 60; day++) {
                x = (x * 1103515245L + 12345L) % 2147483648L;
                boolean tellsA = x / 65536 % 2 == 1;
                if (tellsA && !known) {
                    over++;
                    known = true;
                } else {
                    fell++;
                }
            }
        }
        Check.due("ten years, over", c.years(10, 60, 0), over);
        Check.due("ten years, falls", c.years(10, 60, 1), fell);
        c.seed(Integer.MAX_VALUE);
        Check.due("from the greatest x", c.years(1, 1, 0) + c.years(1, 1, 1), 1);
    }

    private static void withoutSayings() {
        TruthBridge b = Check.bridge("facts 1 1;person 0 1 0 0;turn 0 1");
        Check.due("over", b.years(10, 60, 0), 0);
        Check.due("falls", b.years(10, 60, 1), 0);
        Check.due("worlds", b.years(10, 60, 2), 20);
        TruthBridge c = Check.bridge("facts 3 1", "a");
        Check.due("without people", c.years(3, 2, 2), 24);
    }

    private static void beyondTheLastDay() {
        TruthBridge b = Check.bridge("facts 1 1;person 0 1 1 0", "a");
        Check.rule(b, "say 0");
        for (int i = 0; i < 166; i++) {
            b.run(0, 60);
        }
        b.run(0, 39);
        Check.due("the last day", b.count(8), 9999);
        Check.due("years go on", b.years(1, 60, 0), 1);
        Check.due("they fall the other days", b.years(1, 60, 1), 59);
        Check.due("when goes on", b.when(0, 9999), 9999);
    }
}
