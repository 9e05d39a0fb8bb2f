import java.util.Random;

/** As much of everything as there can be: each call against the Model, and none may fail. */
final class FullTest {
    private static final String LAND = "facts 8 173;person 0 1 255 9;person 0 8 15 1;person 1 16 240 2;person 0 32 85 3;"
            + "person 1 64 170 0;person 0 128 0 5;place 0;place 6;place 7;place 3;place 4;place 5;path 0 1 1;path 1 2 1;"
            + "path 2 3 2;path 3 4 1;path 4 5 1;path 0 5 2;path 0 2 6;path 1 3 2;path 2 4 1;path 1 5 2;turn 0 1;turn 7 2;"
            + "turn 6 3;turn 5 3;turn 4 4;turn 3 99;turn 2 50;turn 1 2";

    private final Story story = new Story();
    private final Model model = new Model();
    private final Random random = new Random(7);

    public static void main(String[] args) {
        new FullTest().play();
        Check.finish("FullTest");
    }

    private void play() {
        model.tape(LAND);
        story.land(LAND, model.land());
        for (int i = 0; i < 24; i++) {
            model.tape(saying(i));
            story.saying(saying(i), model.saying());
        }
        for (int i = 0; i < 6; i++) {
            String rule = "say gain*knows+" + i + " if weight<=gain"
                    + " and [day%3=0 or here>left or price+side=saying]".repeat(3) + ";say saying if person=" + i
                    + ";say 0 if not not not not left-left=0;say 1 if day=" + i;
            model.tape(rule);
            story.rule(rule, model.rule());
        }
        for (int i = 0; i < 10; i++) {
            int saying = i < 4 ? 8 + i : random.nextInt(24);
            boolean fell = model.follows(0x35, saying) == 1;
            story.due("trial", b -> b.trial(saying, fell), model.trial(saying, fell));
        }
        for (int round = 0; round < 12; round++) {
            askAll();
            act(round);
        }
    }

    private String saying(int i) {
        String letter = (173 >> i % 8 & 1) == 1 ? "" + (char) ('a' + i % 8) : "not " + (char) ('a' + i % 8);
        String other = (173 >> (i + 3) % 8 & 1) == 1 ? "" + (char) ('a' + (i + 3) % 8) : "not " + (char) ('a' + (i + 3) % 8);
        return i < 8 ? letter : i < 16 ? letter + " or " + other : letter + " and [" + other + " or " + other + "]";
    }

    private void act(int round) {
        for (int person = 0; person < 6; person++) {
            int p = person;
            int s = random.nextInt(24);
            story.due("cross", b -> b.cross(p, s), model.cross(p, s));
            story.due("look", b -> b.look(p, round % 6), model.look(p, round % 6));
            int other = random.nextInt(6);
            story.due("tell", b -> b.tell(p, other, s), model.tell(p, other, s));
        }
        story.due("image", b -> b.image(round % 4), model.image(round % 4));
        story.due("midnight", b -> b.midnight(), model.midnight());
        if (round % 3 == 2) {
            int days = round == 8 ? 60 : 2;
            story.due("run", b -> b.run(round / 2, days), model.run(round / 2, days));
            story.due("back", b -> b.back((round + 1) % 4), model.back((round + 1) % 4));
            story.due("undo", b -> b.undo(), model.undo());
        }
    }

    private void askAll() {
        for (int what = -1; what <= 14; what++) {
            int i = what;
            story.asked("count(" + i + ")", b -> b.count(i), model.count(i));
            story.asked("sets(" + i + ")", b -> b.sets(i), model.sets(i));
            story.asked("next(" + i + ")", b -> b.next(i), model.next(i));
            story.asked("years(10, 60, " + i + ")", b -> b.years(10, 60, i), model.years(10, 60, i));
            for (int person = -1; person <= 6; person++) {
                int p = person;
                story.asked("person(" + p + ", " + i + ")", b -> b.person(p, i), model.person(p, i));
                story.asked("least(" + p + ", " + i + ")", b -> b.least(p, i), model.least(p, i));
                story.asked("walk(" + p + ", " + i + ")", b -> b.walk(p, i), model.walk(p, i));
                story.asked("bought(" + p + ", " + i + ")", b -> b.bought(p, i), model.bought(p, i));
                story.asked("plan(" + p + ", " + i + ")", b -> b.plan(p, i), model.plan(p, i));
                story.asked("way(" + p + ", " + i + ")", b -> b.way(p, i), model.way(p, i));
            }
        }
        for (int saying = -1; saying <= 24; saying++) {
            int s = saying;
            story.asked("isTrue(" + s + ")", b -> b.isTrue(s), model.isTrue(s));
            story.asked("gain(" + s + ")", b -> b.gain(s), model.gain(s));
            story.asked("shown(" + s + ")", b -> b.shown(s), model.shown(s));
            story.asked("when(" + s + ", 1)", b -> b.when(s, 1), model.when(s, 1));
            story.asked("follows(all, " + s + ")", b -> b.follows(0xFFFFFF, s), model.follows(0xFFFFFF, s));
            story.asked("fewest(0xF0F0F0, " + s + ")", b -> b.fewest(0xF0F0F0, s), model.fewest(0xF0F0F0, s));
            story.asked("fewest(0xFFF, " + s + ")", b -> b.fewest(0xFFF, s), model.fewest(0xFFF, s));
            for (int person = -1; person <= 6; person++) {
                int p = person;
                story.asked("knows(" + p + ", " + s + ")", b -> b.knows(p, s), model.knows(p, s));
                story.asked("opposite(" + p + ", " + s + ")", b -> b.opposite(p, s), model.opposite(p, s));
            }
        }
    }
}
