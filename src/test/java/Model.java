import java.util.ArrayList;
import java.util.Arrays;
import java.util.List;
import java.util.TreeSet;

/**
 * The document once more, as plainly as it can be written and with no regard for speed: WORLDS
 * are numbers in sets, texts are read byte by byte into trees, all that is asked is tried out.
 */
final class Model {
    static final int NONE = -1;

    /** A FAULT of a text. */
    static final class Fault extends Exception {
        private static final long serialVersionUID = 1L;
        final int number;

        Fault(int place, int kind) {
            super("fault", null, false, false);
            number = 1 + 8 * place + kind;
        }
    }

    interface Told {
        boolean holds(int world);
    }

    interface Sum {
        long of(Scene scene);
    }

    interface Test {
        boolean of(Scene scene);
    }

    static final class Clause {
        Sum sum;
        Test test;
    }

    /** What the WORDS of a RULE mean. */
    static final class Scene {
        long person, side, weight, saying, knows, gain, left, here, day, price;
    }

    static final class Path {
        int one, other, hours;
    }

    static final class Person {
        int side, weight, price, hours;
        boolean fell;
        TreeSet<Integer> held = new TreeSet<>();

        Person copy() {
            Person p = new Person();
            p.side = side;
            p.weight = weight;
            p.price = price;
            p.hours = hours;
            p.fell = fell;
            p.held.addAll(held);
            return p;
        }
    }

    static final class State {
        boolean land;
        int facts, so, day;
        List<Person> people = new ArrayList<>();
        List<Integer> places = new ArrayList<>();
        List<Path> paths = new ArrayList<>();
        List<int[]> turns = new ArrayList<>();
        TreeSet<Integer> bridge = new TreeSet<>();
        List<int[]> trials = new ArrayList<>();
        List<State> past = new ArrayList<>();
        int x;

        State copy(boolean withPast) {
            State s = new State();
            s.land = land;
            s.facts = facts;
            s.so = so;
            s.day = day;
            for (Person p : people) {
                s.people.add(p.copy());
            }
            s.places.addAll(places);
            s.paths.addAll(paths);
            s.turns.addAll(turns);
            s.bridge.addAll(bridge);
            s.trials.addAll(trials);
            if (withPast) {
                s.past.addAll(past);
            }
            s.x = x;
            return s;
        }
    }

    private final List<Integer> tape = new ArrayList<>();
    private final List<Told> sayings = new ArrayList<>();
    private final List<List<Clause>> rules = new ArrayList<>();
    private State now = new State();
    private final State[] images = new State[4];

    // ---- texts

    private int at;
    private int letters;
    private int items;

    private int sign() {
        while (at < tape.size() && tape.get(at) == 32) {
            at++;
        }
        return at < tape.size() ? tape.get(at) : -1;
    }

    private String word() {
        sign();
        StringBuilder b = new StringBuilder();
        for (int i = at; i < tape.size() && tape.get(i) >= 'a' && tape.get(i) <= 'z'; i++) {
            b.append((char) (int) tape.get(i));
        }
        return b.toString();
    }

    private Fault off(int kind) {
        sign();
        return new Fault(at, kind);
    }

    private boolean take(String word) {
        if (word().equals(word)) {
            at += word.length();
            return true;
        }
        return false;
    }

    private boolean take(char c) {
        if (sign() == c) {
            at++;
            return true;
        }
        return false;
    }

    private int number(int least, int most) throws Fault {
        int from = at + 0;
        sign();
        from = at;
        String digits = "";
        while (at < tape.size() && tape.get(at) >= '0' && tape.get(at) <= '9') {
            digits += (char) (int) tape.get(at++);
        }
        if (digits.isEmpty()) {
            throw new Fault(from, 0);
        }
        if (digits.length() > 5) {
            throw new Fault(from, 1);
        }
        int value = Integer.parseInt(digits);
        if (value < least || value > most) {
            throw new Fault(from, 1);
        }
        return value;
    }

    private void closed() throws Fault {
        if (sign() != -1) {
            throw off(0);
        }
    }

    private State readLand() throws Fault {
        State s = new State();
        s.land = true;
        at = 0;
        int clauses = 0;
        do {
            landClause(s, clauses++);
        } while (take(';'));
        closed();
        for (int w = 0; w < 1 << s.facts; w++) {
            s.bridge.add(w);
        }
        return s;
    }

    private void landClause(State s, int before) throws Fault {
        String w = word();
        if (!List.of("facts", "person", "place", "path", "turn").contains(w)) {
            throw off(0);
        }
        boolean full = w.equals("person") && s.people.size() == 6 || w.equals("place") && s.places.size() == 6
                || w.equals("path") && s.paths.size() == 10 || w.equals("turn") && s.turns.size() == 8;
        if (before == 40 || full || w.equals("facts") && before > 0 || !w.equals("facts") && before == 0) {
            throw off(4);
        }
        take(w);
        if (w.equals("facts")) {
            s.facts = number(1, 8);
            s.so = number(0, (1 << s.facts) - 1);
        } else if (w.equals("person")) {
            Person p = new Person();
            p.side = number(0, 1);
            p.weight = number(1, 128);
            int known = number(0, (1 << s.facts) - 1);
            p.price = number(0, 99);
            for (int world = 0; world < 1 << s.facts; world++) {
                if (((world ^ s.so) & known) == 0) {
                    p.held.add(world);
                }
            }
            s.people.add(p);
        } else if (w.equals("place")) {
            s.places.add(number(0, s.facts - 1));
        } else if (w.equals("path")) {
            Path p = new Path();
            p.one = number(0, s.places.size() - 1);
            sign();
            int from = at;
            p.other = number(0, s.places.size() - 1);
            if (p.one == p.other) {
                throw new Fault(from, 1);
            }
            p.hours = number(1, 9);
            s.paths.add(p);
        } else {
            s.turns.add(new int[] {number(0, s.facts - 1), number(1, 99)});
        }
    }

    private Told readSaying(int depth) throws Fault {
        Told left = sayingPart(depth);
        while (take("or")) {
            Told l = left;
            Told r = sayingPart(depth);
            left = w -> l.holds(w) || r.holds(w);
        }
        return left;
    }

    private Told sayingPart(int depth) throws Fault {
        Told left = sayingFact(depth);
        while (take("and")) {
            Told l = left;
            Told r = sayingFact(depth);
            left = w -> l.holds(w) && r.holds(w);
        }
        return left;
    }

    private Told sayingFact(int depth) throws Fault {
        if (word().equals("not")) {
            if (depth == 10) {
                throw off(2);
            }
            take("not");
            Told inner = sayingFact(depth + 1);
            return w -> !inner.holds(w);
        }
        if (sign() == '[') {
            if (depth == 10) {
                throw off(2);
            }
            take('[');
            Told inner = readSaying(depth + 1);
            if (!take(']')) {
                throw off(0);
            }
            return inner;
        }
        String w = word();
        if (w.length() != 1 || w.charAt(0) > 'h') {
            throw off(0);
        }
        if (letters == 24) {
            throw off(3);
        }
        letters++;
        take(w);
        int fact = w.charAt(0) - 'a';
        return world -> (world >> fact & 1) == 1;
    }

    private List<Clause> readRule() throws Fault {
        List<Clause> clauses = new ArrayList<>();
        at = 0;
        items = 0;
        do {
            if (!word().equals("say")) {
                throw off(0);
            }
            if (clauses.size() == 12) {
                throw off(4);
            }
            take("say");
            Clause c = new Clause();
            c.sum = sum();
            c.test = take("if") ? test(0) : null;
            clauses.add(c);
        } while (take(';'));
        closed();
        return clauses;
    }

    private Test test(int depth) throws Fault {
        Test left = testPart(depth);
        while (take("or")) {
            Test l = left;
            Test r = testPart(depth);
            left = s -> l.of(s) || r.of(s);
        }
        return left;
    }

    private Test testPart(int depth) throws Fault {
        Test left = testFact(depth);
        while (take("and")) {
            Test l = left;
            Test r = testFact(depth);
            left = s -> l.of(s) && r.of(s);
        }
        return left;
    }

    private Test testFact(int depth) throws Fault {
        if (word().equals("not")) {
            if (depth == 10) {
                throw off(2);
            }
            take("not");
            Test inner = testFact(depth + 1);
            return s -> !inner.of(s);
        }
        if (sign() == '[') {
            if (depth == 10) {
                throw off(2);
            }
            take('[');
            Test inner = test(depth + 1);
            if (!take(']')) {
                throw off(0);
            }
            return inner;
        }
        Sum l = sum();
        int c = sign();
        if (c != '<' && c != '=' && c != '>') {
            throw off(0);
        }
        item();
        at++;
        boolean same = c != '=' && at < tape.size() && tape.get(at) == '=';
        if (same) {
            at++;
        }
        Sum r = sum();
        if (c == '=') {
            return s -> l.of(s) == r.of(s);
        }
        if (c == '<') {
            return same ? s -> l.of(s) <= r.of(s) : s -> l.of(s) < r.of(s);
        }
        return same ? s -> l.of(s) >= r.of(s) : s -> l.of(s) > r.of(s);
    }

    private void item() throws Fault {
        if (items == 60) {
            throw off(3);
        }
        items++;
    }

    private Sum sum() throws Fault {
        Sum left = term();
        while (true) {
            Sum l = left;
            if (take('+')) {
                Sum r = term();
                left = s -> l.of(s) + r.of(s);
            } else if (take('-')) {
                Sum r = term();
                left = s -> l.of(s) - r.of(s);
            } else {
                return left;
            }
        }
    }

    private Sum term() throws Fault {
        Sum left = value();
        while (true) {
            Sum l = left;
            if (take('*')) {
                Sum r = value();
                left = s -> l.of(s) * r.of(s);
            } else if (take('/')) {
                Sum r = value();
                left = s -> r.of(s) == 0 ? 0 : l.of(s) / r.of(s);
            } else if (take('%')) {
                Sum r = value();
                left = s -> r.of(s) == 0 ? 0 : l.of(s) % r.of(s);
            } else {
                return left;
            }
        }
    }

    private Sum value() throws Fault {
        int c = sign();
        if (c >= '0' && c <= '9') {
            int from = at;
            int n = number(0, 99999);
            int to = at;
            at = from;
            item();
            at = to;
            return s -> n;
        }
        String w = word();
        Sum found;
        switch (w) {
            case "person": found = s -> s.person; break;
            case "side": found = s -> s.side; break;
            case "weight": found = s -> s.weight; break;
            case "saying": found = s -> s.saying; break;
            case "knows": found = s -> s.knows; break;
            case "gain": found = s -> s.gain; break;
            case "left": found = s -> s.left; break;
            case "here": found = s -> s.here; break;
            case "day": found = s -> s.day; break;
            case "price": found = s -> s.price; break;
            default: throw off(0);
        }
        item();
        take(w);
        return found;
    }

    // ---- helpers

    private boolean person(int p) {
        return p >= 0 && p < now.people.size();
    }

    private boolean isPlace(int p) {
        return p >= 0 && p < now.places.size();
    }

    private boolean world(int w) {
        return now.land && w >= 0 && w < 1 << now.facts;
    }

    private boolean said(int s) {
        return s >= 0 && s < sayings.size();
    }

    private TreeSet<Integer> held(int p) {
        return p == NONE ? now.bridge : now.people.get(p).held;
    }

    private static boolean known(Told t, Iterable<Integer> worlds) {
        for (int w : worlds) {
            if (!t.holds(w)) {
                return false;
            }
        }
        return true;
    }

    private static int gained(Told t, Iterable<Integer> worlds) {
        int n = 0;
        for (int w : worlds) {
            n += t.holds(w) ? 0 : 1;
        }
        return n;
    }

    private int[][] ways() {
        int n = now.places.size();
        int[][] d = new int[n][n];
        for (int[] row : d) {
            Arrays.fill(row, 1 << 20);
        }
        for (int i = 0; i < n; i++) {
            d[i][i] = 0;
        }
        for (int round = 0; round < n; round++) {
            for (int from = 0; from < n; from++) {
                for (Path p : now.paths) {
                    d[from][p.other] = Math.min(d[from][p.other], d[from][p.one] + p.hours);
                    d[from][p.one] = Math.min(d[from][p.one], d[from][p.other] + p.hours);
                }
            }
        }
        return d;
    }

    private void act() {
        now.past.add(now.copy(false));
        if (now.past.size() > 20) {
            now.past.remove(0);
        }
    }

    private static int crossing(State s, int p, Told t) {
        Person who = s.people.get(p);
        if (!t.holds(s.so)) {
            who.fell = true;
            return 0;
        }
        int g = gained(t, s.bridge);
        if (g == 0) {
            who.fell = true;
            return 1;
        }
        s.bridge.removeIf(w -> !t.holds(w));
        if (g >= who.weight) {
            who.side = 1 - who.side;
            return 3;
        }
        return 2;
    }

    private static void midnightOf(State s) {
        s.day++;
        for (Person p : s.people) {
            p.hours = 0;
            p.fell = false;
        }
        for (int[] t : s.turns) {
            if (t[1] == s.day) {
                s.so ^= 1 << t[0];
                widen(s.bridge, t[0]);
                for (Person p : s.people) {
                    widen(p.held, t[0]);
                }
            }
        }
    }

    private static void widen(TreeSet<Integer> held, int fact) {
        for (int w : new ArrayList<>(held)) {
            held.add(w ^ 1 << fact);
        }
    }

    private boolean getsOver(Person p, Told t, TreeSet<Integer> bridge) {
        return !p.fell && t.holds(now.so) && gained(t, bridge) >= p.weight && gained(t, bridge) > 0;
    }

    private boolean could(Person p, TreeSet<Integer> mind, TreeSet<Integer> bridge) {
        for (Told t : sayings) {
            if (known(t, mind) && getsOver(p, t, bridge)) {
                return true;
            }
        }
        return false;
    }

    /** The TAPE is just this text then. */
    void tape(String text) {
        tape.clear();
        for (char c : text.toCharArray()) {
            tape.add((int) c);
        }
    }

    // ---- the face

    int feed(int a, int b, int c, int d, int e) {
        if (tape.size() + 20 > 400) {
            return NONE;
        }
        for (int n : new int[] {a, b, c, d, e}) {
            tape.add(n >>> 24);
            tape.add(n >>> 16 & 255);
            tape.add(n >>> 8 & 255);
            tape.add(n & 255);
        }
        return tape.size();
    }

    int end(int n) {
        if (n < 0 || n > tape.size()) {
            return NONE;
        }
        while (tape.size() > n) {
            tape.remove(tape.size() - 1);
        }
        return n;
    }

    int land() {
        try {
            State s = readLand();
            s.x = now.x;
            now = s;
            return s.people.size();
        } catch (Fault f) {
            return -2 - f.number;
        } finally {
            tape.clear();
        }
    }

    int saying() {
        if (sayings.size() == 24) {
            return NONE;
        }
        try {
            at = 0;
            letters = 0;
            Told t = readSaying(0);
            closed();
            sayings.add(t);
            return sayings.size() - 1;
        } catch (Fault f) {
            return -2 - f.number;
        } finally {
            tape.clear();
        }
    }

    int rule() {
        if (rules.size() == 6) {
            return NONE;
        }
        try {
            rules.add(readRule());
            return rules.size() - 1;
        } catch (Fault f) {
            return -2 - f.number;
        } finally {
            tape.clear();
        }
    }

    int person(int p, int what) {
        if (!person(p) || what < 0 || what > 6) {
            return NONE;
        }
        Person who = now.people.get(p);
        int settled = 0;
        for (int f = 0; f < now.facts; f++) {
            TreeSet<Integer> values = new TreeSet<>();
            for (int w : who.held) {
                values.add(w >> f & 1);
            }
            settled |= values.size() == 1 ? 1 << f : 0;
        }
        return new int[] {who.side, who.weight, who.price, who.hours, who.fell ? 1 : 0, who.held.size(),
            settled}[what];
    }

    int fact(int f) {
        return f >= 0 && f < now.facts ? now.so >> f & 1 : NONE;
    }

    int place(int p) {
        return isPlace(p) ? now.places.get(p) : NONE;
    }

    int way(int one, int other) {
        if (!isPlace(one) || !isPlace(other)) {
            return NONE;
        }
        int h = ways()[one][other];
        return h < 1 << 20 ? h : -2;
    }

    int so(int s, int w) {
        return said(s) && world(w) ? sayings.get(s).holds(w) ? 1 : 0 : NONE;
    }

    int isTrue(int s) {
        return said(s) && now.land ? sayings.get(s).holds(now.so) ? 1 : 0 : NONE;
    }

    int knows(int p, int s) {
        if (!now.land || !said(s) || p != NONE && !person(p)) {
            return -2;
        }
        return known(sayings.get(s), held(p)) ? 1 : 0;
    }

    int possible(int p, int w) {
        if (!world(w) || p != NONE && !person(p)) {
            return -2;
        }
        return held(p).contains(w) ? 1 : 0;
    }

    int gain(int s) {
        return said(s) && now.land ? gained(sayings.get(s), now.bridge) : NONE;
    }

    int shown(int s) {
        if (!said(s) || !now.land) {
            return NONE;
        }
        for (int w : now.bridge) {
            if (!sayings.get(s).holds(w)) {
                return w;
            }
        }
        return -2;
    }

    int cross(int p, int s) {
        if (!person(p) || !said(s) || now.people.get(p).fell) {
            return NONE;
        }
        act();
        return crossing(now, p, sayings.get(s));
    }

    int tell(int one, int other, int s) {
        if (!person(one) || !person(other) || !said(s) || one == other) {
            return NONE;
        }
        Person a = now.people.get(one);
        Person b = now.people.get(other);
        if (a.fell || b.fell || a.side != b.side || !known(sayings.get(s), a.held)) {
            return NONE;
        }
        act();
        b.held.removeIf(w -> !sayings.get(s).holds(w));
        return b.held.size();
    }

    int look(int p, int place) {
        if (!person(p) || !isPlace(place) || now.people.get(p).fell) {
            return NONE;
        }
        int h = ways()[0][place];
        Person who = now.people.get(p);
        if (who.hours + 2 * h > 24) {
            return NONE;
        }
        act();
        who.hours += 2 * h;
        int f = now.places.get(place);
        who.held.removeIf(w -> (w >> f & 1) != (now.so >> f & 1));
        return now.so >> f & 1;
    }

    int midnight() {
        if (!now.land || now.day == 9999) {
            return NONE;
        }
        act();
        midnightOf(now);
        return now.day;
    }

    int undo() {
        if (now.past.isEmpty()) {
            return -2;
        }
        State was = now.past.get(now.past.size() - 1).copy(false);
        was.past.addAll(now.past.subList(0, now.past.size() - 1));
        was.trials.clear();
        was.trials.addAll(now.trials);
        was.x = now.x;
        now = was;
        return now.past.size();
    }

    int run(int r, int n) {
        if (r < 0 || r >= rules.size() || n < 1 || n > 60 || !now.land || now.day + n > 9999) {
            return NONE;
        }
        now.past.clear();
        int over = 0;
        for (int d = 0; d < n; d++) {
            for (int p = 0; p < now.people.size(); p++) {
                int best = -1;
                long most = 0;
                for (int s = 0; s < sayings.size(); s++) {
                    long value = ruleValue(rules.get(r), p, s);
                    if (value > most) {
                        most = value;
                        best = s;
                    }
                }
                if (best >= 0 && !now.people.get(p).fell && crossing(now, p, sayings.get(best)) == 3) {
                    over++;
                }
            }
            midnightOf(now);
        }
        return over;
    }

    private long ruleValue(List<Clause> rule, int p, int s) {
        Person who = now.people.get(p);
        Scene c = new Scene();
        c.person = p;
        c.side = who.side;
        c.weight = who.weight;
        c.saying = s;
        c.knows = knows(p, s);
        c.gain = gain(s);
        c.left = now.bridge.size();
        for (int o = 0; o < now.people.size(); o++) {
            c.here += o != p && now.people.get(o).side == who.side ? 1 : 0;
        }
        c.day = now.day;
        c.price = who.price;
        for (Clause clause : rule) {
            if (clause.test == null || clause.test.of(c)) {
                return clause.sum.of(c);
            }
        }
        return 0;
    }

    private boolean set(int set) {
        return set >= 0 && set < 1 << sayings.size();
    }

    private boolean following(int set, int s) {
        for (int w = 0; w < 1 << now.facts; w++) {
            boolean all = true;
            for (int i = 0; i < sayings.size(); i++) {
                if ((set >> i & 1) == 1 && !sayings.get(i).holds(w)) {
                    all = false;
                }
            }
            if (all && !sayings.get(s).holds(w)) {
                return false;
            }
        }
        return true;
    }

    int follows(int set, int s) {
        return set(set) && said(s) && now.land ? following(set, s) ? 1 : 0 : NONE;
    }

    int fewest(int set, int s) {
        if (!set(set) || !said(s) || !now.land || Integer.bitCount(set) > 12) {
            return NONE;
        }
        for (int size = 0; size <= 12; size++) {
            int i = 0;
            while (true) {
                if (Integer.bitCount(i) == size && following(i, s)) {
                    return i;
                }
                if (i == set) {
                    break;
                }
                i = (i | ~set) + 1 & set;
            }
        }
        return -2;
    }

    int opposite(int one, int other) {
        if (!said(one) || !said(other) || one == other || !now.land) {
            return NONE;
        }
        for (int w = 0; w < 1 << now.facts; w++) {
            if (sayings.get(one).holds(w) && sayings.get(other).holds(w)) {
                return 0;
            }
        }
        return 1;
    }

    int when(int s, int day) {
        if (!said(s) || !now.land || day < 0 || day > 9999) {
            return NONE;
        }
        int from = Math.max(day, now.day);
        for (int d = from; d < from + 100; d++) {
            int so = now.so;
            for (int[] t : now.turns) {
                if (t[1] > now.day && t[1] <= d) {
                    so ^= 1 << t[0];
                }
            }
            if (sayings.get(s).holds(so)) {
                return d;
            }
        }
        return -2;
    }

    int least(int p, int what) {
        if (!person(p) || what < 0 || what > 1) {
            return NONE;
        }
        Person who = now.people.get(p);
        int best = -2;
        for (int s = 0; s < sayings.size(); s++) {
            if (known(sayings.get(s), who.held) && getsOver(who, sayings.get(s), now.bridge)
                    && (best == -2 || gain(s) < gain(best))) {
                best = s;
            }
        }
        if (best == -2 || what == 0) {
            return best;
        }
        TreeSet<Integer> bridge = new TreeSet<>(now.bridge);
        Told told = sayings.get(best);
        bridge.removeIf(w -> !told.holds(w));
        int others = 0;
        for (int o = 0; o < now.people.size(); o++) {
            Person other = now.people.get(o);
            if (o != p && other.side == who.side && could(other, other.held, bridge)) {
                others++;
            }
        }
        return others;
    }

    private List<Integer> bestPlan;

    int plan(int side, int what) {
        if (side < 0 || side > 1 || what < 0 || what > 8 || !now.land) {
            return NONE;
        }
        List<Integer> there = new ArrayList<>();
        for (int p = 0; p < now.people.size(); p++) {
            if (now.people.get(p).side == side && !now.people.get(p).fell) {
                there.add(p);
            }
        }
        if (there.size() > 4) {
            return -3;
        }
        bestPlan = new ArrayList<>();
        tryPlans(there, new ArrayList<>(), now.bridge);
        if (what == 0) {
            return bestPlan.size() / 2;
        }
        return what <= bestPlan.size() ? bestPlan.get(what - 1) : -2;
    }

    private void tryPlans(List<Integer> there, List<Integer> row, TreeSet<Integer> bridge) {
        if (row.size() > bestPlan.size()) {
            bestPlan = new ArrayList<>(row);
        }
        for (int p : there) {
            boolean used = false;
            for (int i = 0; i < row.size(); i += 2) {
                used |= row.get(i) == p;
            }
            Person who = now.people.get(p);
            for (int s = 0; s < Math.min(8, sayings.size()) && !used; s++) {
                Told t = sayings.get(s);
                if (known(t, who.held) && getsOver(who, t, bridge)) {
                    TreeSet<Integer> less = new TreeSet<>(bridge);
                    less.removeIf(w -> !t.holds(w));
                    row.add(p);
                    row.add(s);
                    tryPlans(there, row, less);
                    row.remove(row.size() - 1);
                    row.remove(row.size() - 1);
                }
            }
        }
    }

    int walk(int p, int what) {
        if (!person(p) || what < 0 || what > 1) {
            return NONE;
        }
        Person who = now.people.get(p);
        int[][] d = ways();
        int best = -1;
        int hours = 1 << 20;
        for (int set = 0; set < 1 << now.places.size(); set++) {
            TreeSet<Integer> mind = new TreeSet<>(who.held);
            List<Integer> stops = new ArrayList<>();
            for (int i = 0; i < now.places.size(); i++) {
                if ((set >> i & 1) == 1) {
                    int f = now.places.get(i);
                    mind.removeIf(w -> (w >> f & 1) != (now.so >> f & 1));
                    stops.add(i);
                }
            }
            int h = shortest(d, 0, stops);
            if (h + who.hours <= 24 && h < hours && could(who, mind, now.bridge)) {
                best = set;
                hours = h;
            }
        }
        return best < 0 ? -2 : what == 0 ? hours : best;
    }

    private int shortest(int[][] d, int from, List<Integer> stops) {
        if (stops.isEmpty()) {
            return d.length == 0 ? 0 : d[from][0];
        }
        int best = 1 << 24;
        for (int i = 0; i < stops.size(); i++) {
            List<Integer> rest = new ArrayList<>(stops);
            int to = rest.remove(i);
            best = Math.min(best, d[from][to] + shortest(d, to, rest));
        }
        return best;
    }

    int bought(int p, int what) {
        if (!person(p) || what < 0 || what > 1) {
            return NONE;
        }
        Person who = now.people.get(p);
        int best = -1;
        int coins = 1 << 20;
        for (int set = 0; set < 1 << now.people.size(); set++) {
            if ((set >> p & 1) == 1) {
                continue;
            }
            TreeSet<Integer> mind = new TreeSet<>(who.held);
            int c = 0;
            for (int o = 0; o < now.people.size(); o++) {
                if ((set >> o & 1) == 1) {
                    mind.retainAll(now.people.get(o).held);
                    c += now.people.get(o).price;
                }
            }
            if (c < coins && could(who, mind, now.bridge)) {
                coins = c;
                best = set;
            }
        }
        return best < 0 ? -2 : what == 0 ? coins : best;
    }

    int trial(int s, boolean fell) {
        if (s == NONE) {
            now.trials.clear();
            return 0;
        }
        if (!said(s) || !now.land || now.trials.size() == 10) {
            return -2;
        }
        now.trials.add(new int[] {s, fell ? 1 : 0});
        return now.trials.size();
    }

    private List<Integer> fitting() {
        List<Integer> sets = new ArrayList<>();
        for (int set = 0; set < 1 << Math.min(8, sayings.size()); set++) {
            boolean fits = true;
            for (int[] t : now.trials) {
                fits &= following(set, t[0]) == (t[1] == 1);
            }
            if (fits) {
                sets.add(set);
            }
        }
        return sets;
    }

    int sets(int what) {
        if (what < 0 || what > 2 || !now.land) {
            return NONE;
        }
        List<Integer> sets = fitting();
        if (what == 0 || sets.isEmpty()) {
            return sets.size();
        }
        int bits = 0;
        for (int s = 0; s < Math.min(8, sayings.size()); s++) {
            int with = 0;
            for (int set : sets) {
                with += set >> s & 1;
            }
            bits |= with == (what == 1 ? sets.size() : 0) ? 1 << s : 0;
        }
        return bits;
    }

    int next(int what) {
        if (what < 0 || what > 1 || !now.land) {
            return NONE;
        }
        List<Integer> sets = fitting();
        int best = -2;
        int part = -2;
        for (int s = 0; s < sayings.size() && !sets.isEmpty(); s++) {
            int yes = 0;
            for (int set : sets) {
                yes += following(set, s) ? 1 : 0;
            }
            int greater = Math.max(yes, sets.size() - yes);
            if (best == -2 || greater < part) {
                best = s;
                part = greater;
            }
        }
        return what == 0 ? best : part;
    }

    int seed(int x) {
        if (x < 0) {
            return NONE;
        }
        int was = now.x;
        now.x = x;
        return was;
    }

    int years(int m, int n, int what) {
        if (m < 1 || m > 10 || n < 1 || n > 60 || what < 0 || what > 2 || !now.land) {
            return NONE;
        }
        long x = now.x;
        int[] sums = new int[3];
        for (int i = 0; i < m; i++) {
            State s = now.copy(false);
            for (int d = 0; d < n; d++) {
                for (int p = 0; p < s.people.size() && !sayings.isEmpty(); p++) {
                    if (!s.people.get(p).fell) {
                        x = (x * 1103515245L + 12345L) % 2147483648L;
                        int came = crossing(s, p, sayings.get((int) (x / 65536 % sayings.size())));
                        sums[0] += came == 3 ? 1 : 0;
                        sums[1] += came < 2 ? 1 : 0;
                    }
                }
                midnightOf(s);
            }
            sums[2] += s.bridge.size();
        }
        return sums[what];
    }

    int count(int what) {
        if (what < 0 || what > 13 || what == 9 && !now.land) {
            return NONE;
        }
        return new int[] {now.facts, now.so, now.people.size(), now.places.size(), now.paths.size(),
            now.turns.size(), sayings.size(), rules.size(), now.day, now.bridge.size(), now.trials.size(),
            now.past.size(), now.x, tape.size()}[what];
    }

    int image(int k) {
        if (k < 0 || k > 3) {
            return NONE;
        }
        images[k] = now.copy(true);
        return now.day;
    }

    int back(int k) {
        if (k < 0 || k > 3 || images[k] == null) {
            return NONE;
        }
        now = images[k].copy(true);
        return now.day;
    }
}
