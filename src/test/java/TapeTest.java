/** Promises 1 to 3: a new object, feed, end. */
final class TapeTest {
    public static void main(String[] args) {
        newObject();
        feeding();
        ending();
        bytesHighestFirst();
        Check.finish("TapeTest");
    }

    private static void newObject() {
        TruthBridge b = new TruthBridge();
        for (int what = 0; what <= 13; what++) {
            Check.due("new: count(" + what + ")", b.count(what), what == 9 ? -1 : 0);
        }
        Check.due("new: sets(0)", b.sets(0), -1);
        Check.due("new: undo()", b.undo(), -2);
        Check.due("new: back(0)", b.back(0), -1);
        Check.due("NONE", TruthBridge.NONE, -1);
    }

    private static void feeding() {
        TruthBridge b = new TruthBridge();
        for (int i = 1; i <= 20; i++) {
            Check.due("feed " + i, b.feed(i, 0, 0, 0, 0), 20 * i);
        }
        Check.due("feed beyond 400", b.feed(1, 1, 1, 1, 1), -1);
        Check.due("count(13) then", b.count(13), 400);
        Check.due("end(381)", b.end(381), 381);
        Check.due("feed into 19", b.feed(1, 1, 1, 1, 1), -1);
        Check.due("count(13) still", b.count(13), 381);
        Check.due("end(380)", b.end(380), 380);
        Check.due("feed into 20", b.feed(1, 1, 1, 1, 1), 400);
    }

    private static void ending() {
        TruthBridge b = new TruthBridge();
        b.feed(0, 0, 0, 0, 0);
        Check.due("end(21)", b.end(21), -1);
        Check.due("end(-1)", b.end(-1), -1);
        Check.due("end(least)", b.end(Integer.MIN_VALUE), -1);
        Check.due("end(greatest)", b.end(Integer.MAX_VALUE), -1);
        Check.due("count(13)", b.count(13), 20);
        Check.due("end(20)", b.end(20), 20);
        Check.due("end(7)", b.end(7), 7);
        Check.due("end(8) of 7", b.end(8), -1);
        Check.due("end(0)", b.end(0), 0);
        Check.due("count(13) of none", b.count(13), 0);
    }

    /** The first fault lies where the first wrong byte came to lie. */
    private static void bytesHighestFirst() {
        TruthBridge b = new TruthBridge();
        for (int wrong = 0; wrong < 20; wrong++) {
            int[] n = new int[5];
            for (int i = 0; i < 20; i++) {
                int sign = i == wrong ? 0xFF : ' ';
                n[i / 4] |= sign << 24 - 8 * (i % 4);
            }
            b.feed(n[0], n[1], n[2], n[3], n[4]);
            Check.due("fault at " + wrong, b.saying(), Check.fault(wrong, 0));
            Check.due("the tape is empty", b.count(13), 0);
        }
    }
}
