import java.util.ArrayList;
import java.util.Collections;
import java.util.List;
import java.util.Random;

/** Texts drawn at random: right ones, ones at the limits, and spoilt ones. */
final class Texts {
    private static final String SPOIL = "abchinotrsayifdwk0129 [];<=>+-*/%,A\u0000\u00e1";
    private final Random random;
    // Lands in which many can get over: light people who know much, and sayings that are so.
    private final boolean rich;
    private int left;
    private int so;

    Texts(Random random) {
        this.random = random;
        rich = random.nextInt(2) == 0;
    }

    private boolean chance(int percent) {
        return random.nextInt(100) < percent;
    }

    private String gap() {
        return chance(8) ? "  " : " ";
    }

    private String maybeGap() {
        return chance(20) ? " " : "";
    }

    private String number(int least, int most) {
        if (chance(1)) {
            return String.valueOf(chance(50) ? most + 1 : Math.max(0, least - 1));
        }
        String digits = String.valueOf(least + random.nextInt(most - least + 1));
        while (chance(3)) {
            digits = "0" + digits;
        }
        return digits;
    }

    private String clause(String word, String... numbers) {
        StringBuilder b = new StringBuilder(word);
        b.append(chance(10) ? "" : gap());
        b.append(String.join(gap(), numbers));
        return b.append(maybeGap()).toString();
    }

    String land() {
        int facts = chance(15) ? 8 : 1 + random.nextInt(6);
        List<String> clauses = new ArrayList<>();
        int people = chance(3) ? 7 : rich ? 3 + random.nextInt(4) : random.nextInt(7);
        for (int i = 0; i < people; i++) {
            int most = rich ? 1 << Math.max(0, facts - 3) : chance(70) ? 1 << Math.max(0, facts - 2) : 128;
            int all = (1 << facts) - 1;
            clauses.add(clause("person", number(0, 1), number(1, most), rich ? number(all / 2, all) : number(0, all),
                    number(0, chance(50) ? 5 : 99)));
        }
        int turns = chance(2) ? 9 : random.nextInt(4);
        for (int i = 0; i < turns; i++) {
            clauses.add(clause("turn", number(0, facts - 1), number(1, chance(70) ? 6 : 99)));
        }
        Collections.shuffle(clauses, random);
        int places = chance(2) ? 7 : random.nextInt(7);
        int paths = places < 2 ? 0 : chance(3) ? 11 : random.nextInt(9);
        for (int i = 0; i < places; i++) {
            clauses.add(i, clause("place", number(0, facts - 1)));
        }
        for (int i = 0; i < paths; i++) {
            int one = random.nextInt(Math.min(places, 6));
            int other = random.nextInt(Math.min(places, 6));
            if (one != other || chance(3)) {
                clauses.add(clause("path", "" + one, "" + other, number(1, chance(60) ? 4 : 9)));
            }
        }
        clauses.add(0, clause("facts", number(facts, facts), number(0, (1 << facts) - 1)));
        return spoil(fit(String.join(";" + maybeGap(), clauses)));
    }

    String saying(int facts, int so) {
        this.so = so;
        left = chance(10) ? 24 + random.nextInt(2) : 1 + random.nextInt(rich ? 3 : 6);
        StringBuilder b = new StringBuilder();
        if (chance(5)) {
            int deep = 9 + random.nextInt(3);
            int brackets = 0;
            for (int i = 0; i < deep; i++) {
                boolean bracket = chance(50);
                b.append(bracket ? "[" : "not ");
                brackets += bracket ? 1 : 0;
            }
            b.append(letter(facts));
            for (int i = 0; i < brackets; i++) {
                b.append("]");
            }
            return spoil(b.toString());
        }
        saying(b, facts, 0);
        while (left > 0) {
            b.append(chance(50) ? " or " : " and ");
            saying(b, facts, 3);
        }
        return spoil(fit(b.toString()));
    }

    private String letter(int facts) {
        left--;
        int fact = random.nextInt(chance(5) ? 8 : Math.max(1, facts));
        String letter = "" + (char) ('a' + fact);
        return rich && (so >> fact & 1) == 0 && chance(90) ? "not " + letter : letter;
    }

    private void saying(StringBuilder b, int facts, int depth) {
        int kind = random.nextInt(10);
        if (left <= 1 || depth > 6 || kind < 3) {
            b.append(letter(facts));
        } else if (kind < 5) {
            b.append("not ");
            saying(b, facts, depth + 1);
        } else if (kind < 7) {
            b.append("[").append(maybeGap());
            saying(b, facts, depth + 1);
            b.append("]");
        } else {
            saying(b, facts, depth + 1);
            b.append(chance(50) ? " or " : " and ");
            saying(b, facts, depth + 1);
        }
    }

    String rule() {
        left = chance(10) ? 62 : 3 + random.nextInt(25);
        int clauses = chance(5) ? 12 + random.nextInt(2) : 1 + random.nextInt(4);
        List<String> all = new ArrayList<>();
        for (int i = 0; i < clauses; i++) {
            StringBuilder b = new StringBuilder("say ");
            sum(b, chance(70) ? 2 : left);
            if (i + 1 < clauses ? chance(85) : chance(30)) {
                b.append(" if ");
                test(b, chance(4) ? 7 : 0);
            }
            all.add(b.toString());
        }
        return spoil(fit(String.join(";" + maybeGap(), all)));
    }

    private void sum(StringBuilder b, int most) {
        int n = 1 + random.nextInt(Math.max(1, most));
        for (int i = 0; i < n; i++) {
            if (i > 0) {
                b.append(maybeGap()).append("+-*/%".charAt(random.nextInt(5))).append(maybeGap());
            }
            String[] words = {"person", "side", "weight", "saying", "knows", "gain", "left", "here", "day", "price"};
            b.append(chance(60) ? words[random.nextInt(10)] : number(0, chance(80) ? 9 : 99999));
            left--;
        }
    }

    private void test(StringBuilder b, int depth) {
        int kind = random.nextInt(10);
        if (kind < 4 || left < 4 || depth > 10) {
            sum(b, 2);
            String[] signs = {"<", "<=", "=", ">=", ">"};
            b.append(maybeGap()).append(signs[random.nextInt(5)]).append(maybeGap());
            sum(b, 2);
            left--;
        } else if (kind < 5) {
            b.append("not ");
            test(b, depth + 1);
        } else if (kind < 7) {
            b.append("[");
            test(b, depth + 1);
            b.append("]");
        } else {
            test(b, depth + 1);
            b.append(chance(50) ? " or " : " and ");
            test(b, depth + 1);
        }
    }

    private String fit(String text) {
        return text.length() > 400 ? text.substring(0, 400) : text;
    }

    private String spoil(String text) {
        if (chance(80)) {
            return text;
        }
        StringBuilder b = new StringBuilder(text);
        int times = 1 + random.nextInt(2);
        for (int i = 0; i < times; i++) {
            int at = random.nextInt(b.length() + 1);
            char c = SPOIL.charAt(random.nextInt(SPOIL.length()));
            switch (random.nextInt(5)) {
                case 0:
                    b.insert(at, c);
                    break;
                case 1:
                    if (at < b.length()) {
                        b.deleteCharAt(at);
                    }
                    break;
                case 2:
                    if (at < b.length()) {
                        b.setCharAt(at, c);
                    }
                    break;
                case 3:
                    if (chance(30)) {
                        b.setLength(at);
                    }
                    break;
                default:
                    String[] words = {"not", "and", "or", "if", "say", "facts", "person", "place", "path", "turn", "day",
                        "123456", "7", "[", "]", "<=", "= =", "saying"};
                    b.insert(at, " " + words[random.nextInt(words.length)] + " ");
                    break;
            }
        }
        return fit(b.toString());
    }
}
