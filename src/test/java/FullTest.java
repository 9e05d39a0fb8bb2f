import java.util.Random;

/** As much of everything as there can be: each call against the Model, and none may fail. */
final class FullTest {
    private static final String LAND = "facts 8 173;person 0 1 255 9;person 0 8 15 1;person 1 16 240 2;person 0 32 85 3;"
            + "person 1 64 170 0;person 0 128 0 5;place 0;place 6;place 7;place 3;place 4;place 5;path 0 1 1;path 1 2 1;"
            + "path 2 3 2;path 3 4 1;path 4 5 1;path 0 5 2;path 0 2 6;path 1 3 2;path 2 4 1;path 1 5 2;turn 0 1;turn 7 2;"
            + "turn 6 3;turn 5 3;turn 4 4;turn 3 99;turn 2 50;turn 1 2";

    private final TruthBridge bridge = new TruthBridge();
    private final Model model = new Model();
    private final Random random = new Random(7);

    public static void main(String[] args) {
        new FullTest().play();
        Check.finish("FullTest");
    }

    private void feed(String text) {
        byte[] bytes = new byte[(text.length() + 19) / 20 * 20];
        for (int i = 0; i < text.length(); i++) {
            bytes[i] = (byte) text.charAt(i);
        }
        for (int i = 0; i < bytes.length; i += 20) {
            int[] n = new int[5];
            for (int k = 0; k < 5; k++) {
                n[k] = Check.four(bytes, i + 4 * k);
            }
            Check.due("feed", bridge.feed(n[0], n[1], n[2], n[3], n[4]), model.feed(n[0], n[1], n[2], n[3], n[4]));
        }
        Check.due("end", bridge.end(text.length()), model.end(text.length()));
    }

    private void play() {
        feed(LAND);
        Check.due("land", bridge.land(), 6);
        model.land();
        for (int i = 0; i < 24; i++) {
            feed(saying(i));
            Check.due("saying", bridge.saying(), i);
            model.saying();
        }
        for (int i = 0; i < 6; i++) {
            feed("say gain*knows+" + i + " if weight<=gain" + " and [day%3=0 or here>left or price+side=saying]".repeat(3)
                    + ";say saying if person=" + i + ";say 0 if not not not not left-left=0;say 1 if day=" + i);
            Check.due("rule", bridge.rule(), i);
            model.rule();
        }
        for (int i = 0; i < 10; i++) {
            int saying = i < 4 ? 8 + i : random.nextInt(24);
            boolean fell = model.follows(0x35, saying) == 1;
            Check.due("trial", bridge.trial(saying, fell), model.trial(saying, fell));
        }
        for (int round = 0; round < 12; round++) {
            askAll();
            act(round);
        }
    }

    private String saying(int i) {
        String letter = (173 >> i % 8 & 1) == 1 ? "" + (char) ('a' + i % 8) : "not " + (char) ('a' + i % 8);
        String other = (173 >> (i + 3) % 8 & 1) == 1 ? "" + (char) ('a' + (i + 3) % 8) : "not " + (char) ('a' + (i + 3) % 8);
        return i < 8 ? letter : i < 16 ? letter + " or " + other : letter + " and [" + other + " or " + other + "]";
    }

    private void act(int round) {
        for (int p = 0; p < 6; p++) {
            int s = random.nextInt(24);
            Check.due("cross", bridge.cross(p, s), model.cross(p, s));
            Check.due("look", bridge.look(p, round % 6), model.look(p, round % 6));
            int other = random.nextInt(6);
            Check.due("tell", bridge.tell(p, other, s), model.tell(p, other, s));
        }
        Check.due("image", bridge.image(round % 4), model.image(round % 4));
        Check.due("midnight", bridge.midnight(), model.midnight());
        if (round % 3 == 2) {
            int days = round == 8 ? 60 : 2;
            Check.due("run", bridge.run(round / 2, days), model.run(round / 2, days));
            Check.due("back", bridge.back((round + 1) % 4), model.back((round + 1) % 4));
            Check.due("undo", bridge.undo(), model.undo());
        }
    }

    private void askAll() {
        for (int i = -1; i <= 14; i++) {
            Check.due("count(" + i + ")", bridge.count(i), model.count(i));
            Check.due("sets(" + i + ")", bridge.sets(i), model.sets(i));
            Check.due("next(" + i + ")", bridge.next(i), model.next(i));
            Check.due("years(10, 60, " + i + ")", bridge.years(10, 60, i), model.years(10, 60, i));
            for (int p = -1; p <= 6; p++) {
                Check.due("person(" + p + ", " + i + ")", bridge.person(p, i), model.person(p, i));
                Check.due("least(" + p + ", " + i + ")", bridge.least(p, i), model.least(p, i));
                Check.due("walk(" + p + ", " + i + ")", bridge.walk(p, i), model.walk(p, i));
                Check.due("bought(" + p + ", " + i + ")", bridge.bought(p, i), model.bought(p, i));
                Check.due("plan(" + p + ", " + i + ")", bridge.plan(p, i), model.plan(p, i));
                Check.due("way(" + p + ", " + i + ")", bridge.way(p, i), model.way(p, i));
            }
        }
        for (int s = -1; s <= 24; s++) {
            Check.due("isTrue(" + s + ")", bridge.isTrue(s), model.isTrue(s));
            Check.due("gain(" + s + ")", bridge.gain(s), model.gain(s));
            Check.due("shown(" + s + ")", bridge.shown(s), model.shown(s));
            Check.due("when(" + s + ", 1)", bridge.when(s, 1), model.when(s, 1));
            Check.due("follows(all, " + s + ")", bridge.follows(0xFFFFFF, s), model.follows(0xFFFFFF, s));
            Check.due("fewest(0xF0F0F0, " + s + ")", bridge.fewest(0xF0F0F0, s), model.fewest(0xF0F0F0, s));
            Check.due("fewest(0xFFF, " + s + ")", bridge.fewest(0xFFF, s), model.fewest(0xFFF, s));
            for (int p = -1; p <= 6; p++) {
                Check.due("knows(" + p + ", " + s + ")", bridge.knows(p, s), model.knows(p, s));
                Check.due("opposite(" + p + ", " + s + ")", bridge.opposite(p, s), model.opposite(p, s));
            }
        }
    }
}
