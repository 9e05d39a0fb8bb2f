import java.util.Random;

/** Runs drawn at random (by numbers that are always the same): the class against the Model. */
final class RandomTest {
    private static final int MOST_CALLS = 512;
    private static int[] kinds = new int[60];
    private static int[] good = new int[60];
    private static int[] plans = new int[5];

    private final Random random;
    private final Texts texts;
    private final TruthBridge bridge = new TruthBridge();
    private final Model model = new Model();
    private final int run;
    private int made;
    private final StringBuilder log = new StringBuilder();

    private RandomTest(int run) {
        this.run = run;
        random = new Random(run * 7919L + 13);
        texts = new Texts(random);
    }

    public static void main(String[] args) {
        int runs = args.length > 0 ? Integer.parseInt(args[0]) : 1000;
        int from = args.length > 1 ? Integer.parseInt(args[1]) : 0;
        for (int i = from; i < from + runs; i++) {
            new RandomTest(i).play();
        }
        if (args.length > 0) {
            for (int i = 0; i < 45; i++) {
                System.out.println("call " + i + ": " + kinds[i] + ", answered 0 or more: " + good[i]);
            }
        }
        if (args.length > 0) {
            System.out.println("plans of 0 to 4: " + java.util.Arrays.toString(plans));
        }
        Check.finish("RandomTest");
    }

    private void play() {
        for (int i = 0; made < MOST_CALLS; i++) {
            if (i == 10) {
                everything();
            }
            int kind = i == 0 && random.nextInt(10) > 0 ? 3 : i < 8 && random.nextInt(3) > 0 ? 4 : random.nextInt(45);
            if (kind == 3 && i > 0 && random.nextInt(4) > 0) {
                kind = 5;
            }
            int got = call(kind);
            kinds[kind]++;
            if (got >= 0) {
                good[kind]++;
            }
        }
    }

    private int near(int below) {
        int r = random.nextInt(40);
        return r == 0 ? -1 : r == 1 ? below : r == 2 ? random.nextInt() : below <= 0 ? 0 : random.nextInt(below);
    }

    private int person() {
        return near(model.count(2));
    }

    private int saying() {
        return near(model.count(6));
    }

    private int place() {
        return near(model.count(3));
    }

    private int world() {
        return near(1 << model.count(0));
    }

    private int set() {
        int n = model.count(6);
        int set = near(1 << n);
        while (n > 12 && Integer.bitCount(set) > 12 && random.nextInt(10) > 0) {
            set &= random.nextInt(1 << n);
        }
        return set;
    }

    /** What comes behind the last call is free. */
    private int check(String call, int got, int want) {
        made++;
        if (made > MOST_CALLS) {
            return want;
        }
        if (got != want) {
            System.out.println(log);
        }
        Check.due("run " + run + ": " + call, got, want);
        if (got != want) {
            Check.finish("RandomTest");
        }
        log.append(call).append(" = ").append(got).append('\n');
        return got;
    }

    private void feed(String text) {
        log.append("text: ").append(text).append('\n');
        check("end(0)", bridge.end(0), model.end(0));
        byte[] bytes = new byte[(text.length() + 19) / 20 * 20];
        for (int i = 0; i < text.length(); i++) {
            bytes[i] = (byte) text.charAt(i);
        }
        for (int i = 0; i < bytes.length; i += 20) {
            feed(Check.four(bytes, i), Check.four(bytes, i + 4), Check.four(bytes, i + 8), Check.four(bytes, i + 12),
                    Check.four(bytes, i + 16));
        }
        check("end(n)", bridge.end(text.length()), model.end(text.length()));
    }

    private int feed(int a, int b, int c, int d, int e) {
        return check("feed", bridge.feed(a, b, c, d, e), model.feed(a, b, c, d, e));
    }

    private int call(int kind) {
        int a;
        int b;
        int c;
        switch (kind) {
            case 0:
                return feed(random.nextInt(), random.nextInt(), random.nextInt(), random.nextInt(), random.nextInt());
            case 1:
                a = random.nextInt(420) - 5;
                return check("end(" + a + ")", bridge.end(a), model.end(a));
            case 2:
                a = random.nextInt(30);
                if (a == 0) {
                    return check("land()", bridge.land(), model.land());
                }
                return a == 1 ? check("saying()", bridge.saying(), model.saying())
                        : a == 2 ? check("rule()", bridge.rule(), model.rule()) : 0;
            case 3:
                feed(texts.land());
                return check("land()", bridge.land(), model.land());
            case 4:
                feed(texts.saying(Math.max(1, model.count(0)), model.count(1)));
                return check("saying()", bridge.saying(), model.saying());
            case 5:
                feed(texts.rule());
                return check("rule()", bridge.rule(), model.rule());
            case 6:
                a = person();
                b = near(7);
                return check("person(" + a + ", " + b + ")", bridge.person(a, b), model.person(a, b));
            case 7:
                a = near(model.count(0));
                return check("fact(" + a + ")", bridge.fact(a), model.fact(a));
            case 8:
                a = place();
                return check("place(" + a + ")", bridge.place(a), model.place(a));
            case 9:
                a = place();
                b = place();
                return check("way(" + a + ", " + b + ")", bridge.way(a, b), model.way(a, b));
            case 10:
                a = saying();
                b = world();
                return check("so(" + a + ", " + b + ")", bridge.so(a, b), model.so(a, b));
            case 11:
                a = saying();
                return check("isTrue(" + a + ")", bridge.isTrue(a), model.isTrue(a));
            case 12:
                a = random.nextInt(4) == 0 ? -1 : person();
                b = saying();
                return check("knows(" + a + ", " + b + ")", bridge.knows(a, b), model.knows(a, b));
            case 13:
                a = random.nextInt(4) == 0 ? -1 : person();
                b = world();
                return check("possible(" + a + ", " + b + ")", bridge.possible(a, b), model.possible(a, b));
            case 14:
                a = saying();
                return check("gain(" + a + ")", bridge.gain(a), model.gain(a));
            case 15:
                a = saying();
                return check("shown(" + a + ")", bridge.shown(a), model.shown(a));
            case 16:
                a = person();
                b = saying();
                return check("cross(" + a + ", " + b + ")", bridge.cross(a, b), model.cross(a, b));
            case 17:
                a = person();
                b = person();
                c = saying();
                return check("tell(" + a + ", " + b + ", " + c + ")", bridge.tell(a, b, c), model.tell(a, b, c));
            case 18:
                a = person();
                b = place();
                return check("look(" + a + ", " + b + ")", bridge.look(a, b), model.look(a, b));
            case 19:
                return check("midnight()", bridge.midnight(), model.midnight());
            case 20:
            case 21:
                return check("undo()", bridge.undo(), model.undo());
            case 22:
                a = near(model.count(7));
                b = random.nextInt(5) == 0 ? random.nextInt(63) - 1 : random.nextInt(5);
                return check("run(" + a + ", " + b + ")", bridge.run(a, b), model.run(a, b));
            case 23:
                a = set();
                b = saying();
                return check("follows(" + a + ", " + b + ")", bridge.follows(a, b), model.follows(a, b));
            case 24:
                a = set();
                b = saying();
                return check("fewest(" + a + ", " + b + ")", bridge.fewest(a, b), model.fewest(a, b));
            case 25:
                a = saying();
                b = saying();
                return check("opposite(" + a + ", " + b + ")", bridge.opposite(a, b), model.opposite(a, b));
            case 26:
                a = saying();
                b = random.nextInt(3) == 0 ? random.nextInt(10005) - 2 : random.nextInt(110);
                return check("when(" + a + ", " + b + ")", bridge.when(a, b), model.when(a, b));
            default:
                return callMore(kind);
        }
    }

    private int callMore(int kind) {
        int a;
        int b;
        int c;
        boolean fell;
        switch (kind) {
            case 27:
            case 28:
                a = person();
                b = near(2);
                return check("least(" + a + ", " + b + ")", bridge.least(a, b), model.least(a, b));
            case 29:
            case 30:
                a = near(2);
                b = near(9);
                return check("plan(" + a + ", " + b + ")", bridge.plan(a, b), model.plan(a, b));
            case 31:
            case 32:
                a = person();
                b = near(2);
                return check("walk(" + a + ", " + b + ")", bridge.walk(a, b), model.walk(a, b));
            case 33:
            case 34:
                a = person();
                b = near(2);
                return check("bought(" + a + ", " + b + ")", bridge.bought(a, b), model.bought(a, b));
            case 35:
                a = saying();
                fell = random.nextBoolean();
                return check("trial(" + a + ", " + fell + ")", bridge.trial(a, fell), model.trial(a, fell));
            case 36:
                a = near(3);
                return check("sets(" + a + ")", bridge.sets(a), model.sets(a));
            case 37:
                a = near(2);
                return check("next(" + a + ")", bridge.next(a), model.next(a));
            case 38:
                a = random.nextInt();
                return check("seed(" + a + ")", bridge.seed(a), model.seed(a));
            case 39:
                a = near(11);
                b = random.nextInt(5) == 0 ? random.nextInt(63) - 1 : random.nextInt(5);
                c = near(3);
                return check("years(" + a + ", " + b + ", " + c + ")", bridge.years(a, b, c), model.years(a, b, c));
            case 40:
            case 41:
                a = near(15);
                return check("count(" + a + ")", bridge.count(a), model.count(a));
            case 42:
                a = near(4);
                return check("image(" + a + ")", bridge.image(a), model.image(a));
            case 43:
                a = near(4);
                return check("back(" + a + ")", bridge.back(a), model.back(a));
            default:
                return everything();
        }
    }

    private int everything() {
        for (int i = 0; i <= 13; i++) {
            check("count(" + i + ")", bridge.count(i), model.count(i));
        }
        for (int p = 0; p < model.count(2); p++) {
            for (int i = 0; i <= 6; i++) {
                check("person(" + p + ", " + i + ")", bridge.person(p, i), model.person(p, i));
            }
            for (int i = 0; i < 2; i++) {
                check("least(" + p + ", " + i + ")", bridge.least(p, i), model.least(p, i));
                check("walk(" + p + ", " + i + ")", bridge.walk(p, i), model.walk(p, i));
                check("bought(" + p + ", " + i + ")", bridge.bought(p, i), model.bought(p, i));
            }
        }
        for (int side = 0; side < 2; side++) {
            for (int i = 0; i <= 8; i++) {
                int got = check("plan(" + side + ", " + i + ")", bridge.plan(side, i), model.plan(side, i));
                if (i == 0 && got >= 0) {
                    plans[got]++;
                }
            }
        }
        return 0;
    }
}
