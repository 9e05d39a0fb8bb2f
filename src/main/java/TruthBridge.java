import java.util.Arrays;

/** A bridge that bears whoever tells it what is so and what it did not know. */
public final class TruthBridge {
    public static final int NONE = -1;

    // Where NONE has another meaning, or none at all, the document answers these.
    private static final int NOT_THERE = -2;
    private static final int TOO_MANY = -3;

    private static final int MOST_FACTS = 8;
    private static final int MOST_PEOPLE = 6;
    private static final int MOST_PLACES = 6;
    private static final int MOST_PATHS = 10;
    private static final int MOST_TURNS = 8;
    private static final int MOST_SAYINGS = 24;
    private static final int MOST_RULES = 6;
    private static final int MOST_RULE_CLAUSES = 12;
    private static final int MOST_TRIALS = 10;
    private static final int MOST_IMAGES = 4;
    private static final int MOST_DAYS = 60;
    private static final int MOST_YEARS = 10;
    private static final int MOST_FEWEST = 12;
    private static final int MOST_DEEP = 10;
    private static final int LAST_DAY = 9999;
    private static final int HOURS_A_DAY = 24;
    // PLANS and ANOTHER BRIDGE use the SAYINGS 0 to 7 alone.
    private static final int FIRST_SAYINGS = 8;

    private static final int IS_NOT_SO = 0;
    private static final int WAS_KNOWN = 1;
    private static final int TO_THE_MIDDLE = 2;
    private static final int OVER = 3;

    private static final int FAULT_SIGN = 0;
    private static final int FAULT_NUMBER = 1;
    private static final int FAULT_DEEP = 2;
    private static final int FAULT_MANY = 3;
    private static final int FAULT_CLAUSE = 4;

    private final Text tape;
    private final SayingReader sayingReader;
    private final RuleReader ruleReader;
    private final Sayings sayings;
    private final Rule[] rules;
    private int ruleCount;
    private final Page now;
    private final Page[] images;
    private final Adviser adviser;
    private final Days days;

    public TruthBridge() {
        Text text = new Text();
        Sayings told = new Sayings();
        Page page = new Page();
        tape = text;
        sayingReader = new SayingReader(text);
        ruleReader = new RuleReader(text);
        sayings = told;
        rules = new Rule[MOST_RULES];
        now = page;
        images = new Page[MOST_IMAGES];
        adviser = new Adviser(page, told);
        days = new Days(page, told);
    }

    public int feed(int a, int b, int c, int d, int e) {
        if (!tape.hasRoomFor(20)) {
            return NONE;
        }
        tape.append(a);
        tape.append(b);
        tape.append(c);
        tape.append(d);
        tape.append(e);
        return tape.length;
    }

    public int end(int n) {
        if (n < 0 || n > tape.length) {
            return NONE;
        }
        tape.length = n;
        return n;
    }

    public int land() {
        Land land = new Land();
        land.readFrom(tape);
        tape.length = 0;
        if (tape.failed()) {
            return NOT_THERE - tape.fault;
        }
        now.settle(land);
        return land.people;
    }

    public int saying() {
        if (sayings.size >= MOST_SAYINGS) {
            return NONE;
        }
        Worlds read = sayingReader.read();
        tape.length = 0;
        if (tape.failed()) {
            return NOT_THERE - tape.fault;
        }
        return sayings.add(read);
    }

    public int rule() {
        if (ruleCount >= MOST_RULES) {
            return NONE;
        }
        ruleReader.read();
        tape.length = 0;
        if (tape.failed()) {
            return NOT_THERE - tape.fault;
        }
        rules[ruleCount] = ruleReader.made();
        ruleCount++;
        return ruleCount - 1;
    }

    public int person(int person, int what) {
        if (!isPerson(person)) {
            return NONE;
        }
        Moment moment = now.moment;
        switch (what) {
            case 0:
                return moment.sideOf(person);
            case 1:
                return now.land.weights[person];
            case 2:
                return now.land.prices[person];
            case 3:
                return moment.hours[person];
            case 4:
                return bit(moment.hasFallen(person));
            case 5:
                return moment.heldBy(person).size();
            case 6:
                return moment.heldBy(person).settledFacts(now.land.facts);
            default:
                return NONE;
        }
    }

    public int fact(int fact) {
        if (fact < 0 || fact >= now.land.facts) {
            return NONE;
        }
        return now.moment.facts >> fact & 1;
    }

    public int place(int place) {
        return isPlace(place) ? now.land.placeFacts[place] : NONE;
    }

    public int way(int one, int other) {
        if (!isPlace(one) || !isPlace(other)) {
            return NONE;
        }
        int hours = now.land.hoursBetween(one, other);
        return hours < Land.FAR ? hours : NOT_THERE;
    }

    public int so(int saying, int world) {
        if (!isSaying(saying) || !isWorld(world)) {
            return NONE;
        }
        return bit(sayings.rows[saying].has(world));
    }

    public int isTrue(int saying) {
        if (!isSaying(saying) || !now.hasLand()) {
            return NONE;
        }
        return bit(sayings.rows[saying].has(now.moment.facts));
    }

    public int knows(int person, int saying) {
        if (!isHolder(person) || !isSaying(saying)) {
            return NOT_THERE;
        }
        return bit(now.moment.heldBy(person).within(sayings.rows[saying]));
    }

    public int possible(int person, int world) {
        if (!isHolder(person) || !isWorld(world)) {
            return NOT_THERE;
        }
        return bit(now.moment.heldBy(person).has(world));
    }

    public int gain(int saying) {
        if (!isSaying(saying) || !now.hasLand()) {
            return NONE;
        }
        return now.moment.heldBy(NONE).sizeBeyond(sayings.rows[saying]);
    }

    public int shown(int saying) {
        if (!isSaying(saying) || !now.hasLand()) {
            return NONE;
        }
        return now.moment.heldBy(NONE).leastBeyond(sayings.rows[saying]);
    }

    public int cross(int person, int saying) {
        if (!isUp(person) || !isSaying(saying)) {
            return NONE;
        }
        now.remember();
        return now.moment.crossBy(person, now.land.weights[person], sayings.rows[saying]);
    }

    public int tell(int one, int other, int saying) {
        if (!isUp(one) || !isUp(other) || one == other || !isSaying(saying)) {
            return NONE;
        }
        Moment moment = now.moment;
        Worlds told = sayings.rows[saying];
        if (moment.sideOf(one) != moment.sideOf(other) || !moment.heldBy(one).within(told)) {
            return NONE;
        }
        now.remember();
        moment.heldBy(other).keep(told);
        return moment.heldBy(other).size();
    }

    public int look(int person, int place) {
        if (!isUp(person) || !isPlace(place)) {
            return NONE;
        }
        Moment moment = now.moment;
        int hours = moment.hours[person] + 2 * now.land.hoursBetween(0, place);
        if (hours > HOURS_A_DAY) {
            return NONE;
        }
        now.remember();
        int seen = now.land.placeFacts[place];
        moment.hours[person] = hours;
        moment.heldBy(person).keepFact(seen, moment.isFact(seen));
        return bit(moment.isFact(seen));
    }

    public int midnight() {
        if (!now.hasLand() || now.moment.day >= LAST_DAY) {
            return NONE;
        }
        now.remember();
        now.moment.passMidnight(now.land);
        return now.moment.day;
    }

    public int undo() {
        return now.takeBack();
    }

    public int run(int rule, int n) {
        if (rule < 0 || rule >= ruleCount || n < 1 || n > MOST_DAYS) {
            return NONE;
        }
        Rule chosen = rules[rule];
        if (chosen == null || !now.hasLand() || now.moment.day + n > LAST_DAY) {
            return NONE;
        }
        now.undoable = 0;
        return days.byRule(chosen, n);
    }

    public int follows(int set, int saying) {
        if (!isSet(set) || !isSaying(saying) || !now.hasLand()) {
            return NONE;
        }
        return bit(sayings.followsFrom(now.land.facts, set, saying));
    }

    public int fewest(int set, int saying) {
        if (!isSet(set) || !isSaying(saying) || !now.hasLand()) {
            return NONE;
        }
        if (Integer.bitCount(set) > MOST_FEWEST) {
            return NONE;
        }
        return sayings.fewestOf(now.land.facts, set, saying);
    }

    public int opposite(int one, int other) {
        if (!isSaying(one) || !isSaying(other) || one == other || !now.hasLand()) {
            return NONE;
        }
        return bit(sayings.areOpposite(now.land.facts, one, other));
    }

    public int when(int saying, int day) {
        if (!isSaying(saying) || day < 0 || day > LAST_DAY || !now.hasLand()) {
            return NONE;
        }
        return days.firstDay(sayings.rows[saying], day);
    }

    public int least(int person, int what) {
        return isPerson(person) && isOneOf(what, 2) ? adviser.leastOf(person, what) : NONE;
    }

    public int plan(int side, int what) {
        if (!isOneOf(side, 2) || !isOneOf(what, 9) || !now.hasLand()) {
            return NONE;
        }
        return adviser.planFor(side, what);
    }

    public int walk(int person, int what) {
        return isPerson(person) && isOneOf(what, 2) ? adviser.walkOf(person, what) : NONE;
    }

    public int bought(int person, int what) {
        return isPerson(person) && isOneOf(what, 2) ? adviser.boughtFor(person, what) : NONE;
    }

    public int trial(int saying, boolean fell) {
        if (saying == NONE) {
            now.trials = 0;
            return 0;
        }
        if (!isSaying(saying) || !now.hasLand() || now.trials >= MOST_TRIALS) {
            return NOT_THERE;
        }
        now.addTrial(saying, fell);
        return now.trials;
    }

    public int sets(int what) {
        return isOneOf(what, 3) && now.hasLand() ? sayings.fittingSets(now, what) : NONE;
    }

    public int next(int what) {
        return isOneOf(what, 2) && now.hasLand() ? sayings.bestTrial(now, what) : NONE;
    }

    public int seed(int x) {
        if (x < 0) {
            return NONE;
        }
        int was = now.x;
        now.x = x;
        return was;
    }

    public int years(int m, int n, int what) {
        if (m < 1 || m > MOST_YEARS || n < 1 || n > MOST_DAYS) {
            return NONE;
        }
        return isOneOf(what, 3) && now.hasLand() ? days.drawYears(m, n, what) : NONE;
    }

    public int count(int what) {
        switch (what) {
            case 6:
                return sayings.size;
            case 7:
                return ruleCount;
            case 8:
                return now.moment.day;
            case 9:
                return now.hasLand() ? now.moment.heldBy(NONE).size() : NONE;
            case 10:
                return now.trials;
            case 11:
                return now.undoable;
            case 12:
                return now.x;
            case 13:
                return tape.length;
            default:
                return landNumber(what);
        }
    }

    public int image(int k) {
        if (!isOneOf(k, MOST_IMAGES)) {
            return NONE;
        }
        Page kept = images[k];
        if (kept == null) {
            kept = new Page();
            images[k] = kept;
        }
        kept.copyFrom(now);
        return now.moment.day;
    }

    public int back(int k) {
        if (!isOneOf(k, MOST_IMAGES)) {
            return NONE;
        }
        Page kept = images[k];
        if (kept == null) {
            return NONE;
        }
        now.copyFrom(kept);
        return now.moment.day;
    }

    private int landNumber(int what) {
        switch (what) {
            case 0:
                return now.land.facts;
            case 1:
                return now.moment.facts;
            case 2:
                return now.land.people;
            case 3:
                return now.land.places;
            case 4:
                return now.land.paths;
            case 5:
                return now.land.turns;
            default:
                return NONE;
        }
    }

    private boolean isPerson(int person) {
        return person >= 0 && person < now.land.people;
    }

    private boolean isUp(int person) {
        return isPerson(person) && !now.moment.hasFallen(person);
    }

    /** NONE stands for the bridge where it is asked who HOLDS what. */
    private boolean isHolder(int person) {
        return now.hasLand() && (person == NONE || isPerson(person));
    }

    private boolean isPlace(int place) {
        return place >= 0 && place < now.land.places;
    }

    private boolean isWorld(int world) {
        return now.hasLand() && world >= 0 && world < 1 << now.land.facts;
    }

    private boolean isSaying(int saying) {
        return saying >= 0 && saying < sayings.size;
    }

    private boolean isSet(int set) {
        return set >= 0 && set < 1 << sayings.size;
    }

    private static boolean isOneOf(int what, int kinds) {
        return what >= 0 && what < kinds;
    }

    private static int bit(boolean holds) {
        return holds ? 1 : 0;
    }

    /**
     * The TAPE, and the tokens that it is read as (a byte that is no letter, digit or blank is a
     * token as it is). With the first FAULT the reading stands at the end, where nothing can be
     * taken any more: so readers need no tests of their own to stop.
     */
    private static final class Text {
        static final int SIZE = 400;
        static final int MOST_DIGITS = 5;

        static final int END = -1;
        static final int AT_MOST = 256;
        static final int AT_LEAST = 257;
        static final int UNKNOWN = 258;
        // The letters a to h stand for the FACTS 0 to 7.
        static final int LETTER = 260;
        static final int WORD = 300;
        static final int NUMBER = 1000;
        static final int LONG_NUMBER = NUMBER + 100000;

        // In the order of the tokens below; a blank behind each.
        private static final String WORDS =
                "facts place path turn person side weight saying knows gain left here day price not and or say if ";
        static final int FACTS = WORD;
        static final int PLACE = WORD + 1;
        static final int PATH = WORD + 2;
        static final int TURN = WORD + 3;
        static final int PERSON = WORD + 4;
        static final int SIDE = WORD + 5;
        static final int WEIGHT = WORD + 6;
        static final int SAYING = WORD + 7;
        static final int KNOWS = WORD + 8;
        static final int GAIN = WORD + 9;
        static final int LEFT = WORD + 10;
        static final int HERE = WORD + 11;
        static final int DAY = WORD + 12;
        static final int PRICE = WORD + 13;
        static final int NOT = WORD + 14;
        static final int AND = WORD + 15;
        static final int OR = WORD + 16;
        static final int SAY = WORD + 17;
        static final int IF = WORD + 18;

        private final byte[] bytes = new byte[SIZE];
        int length;
        int fault;
        private final int[] tokens = new int[SIZE + 1];
        private final int[] places = new int[SIZE + 1];
        private int size;
        private int current;

        boolean hasRoomFor(int more) {
            return length <= SIZE - more;
        }

        void append(int four) {
            for (int shift = 24; shift >= 0 && length < SIZE; shift -= 8) {
                bytes[length] = (byte) (four >> shift);
                length++;
            }
        }

        void begin() {
            fault = 0;
            size = 0;
            current = 0;
            int behind = 0;
            for (int at = 0; at < length; at++) {
                if (at >= behind && bytes[at] != ' ') {
                    behind = addToken(at);
                }
            }
            put(END, length);
        }

        private void put(int token, int where) {
            tokens[size] = token;
            places[size] = where;
            size++;
        }

        /** Answers the place behind it. */
        private int addToken(int at) {
            if (isSmall(at)) {
                return addWord(at);
            }
            if (isDigit(at)) {
                return addNumber(at);
            }
            int sign = bytes[at] & 255;
            boolean orSame = at + 1 < length && bytes[at + 1] == '=';
            if (orSame && (sign == '<' || sign == '>')) {
                put(sign == '<' ? AT_MOST : AT_LEAST, at);
                return at + 2;
            }
            put(sign, at);
            return at + 1;
        }

        private int addWord(int from) {
            int to = from + 1;
            while (to < length && isSmall(to)) {
                to++;
            }
            int letter = bytes[from] - 'a';
            if (to - from > 1) {
                put(wordAt(from, to - from), from);
            } else {
                put(letter < MOST_FACTS ? LETTER + letter : UNKNOWN, from);
            }
            return to;
        }

        private int wordAt(int from, int wanted) {
            int word = WORD;
            int matched = 0;
            boolean same = true;
            for (int i = 0; i < WORDS.length(); i++) {
                char sign = WORDS.charAt(i);
                if (sign != ' ') {
                    same = same && matched < wanted && bytes[from + matched] == sign;
                    matched++;
                } else if (same && matched == wanted) {
                    return word;
                } else {
                    word++;
                    matched = 0;
                    same = true;
                }
            }
            return UNKNOWN;
        }

        private int addNumber(int from) {
            int to = from;
            int value = 0;
            while (to < length && isDigit(to)) {
                if (to - from < MOST_DIGITS) {
                    value = value * 10 + bytes[to] - '0';
                }
                to++;
            }
            put(to - from > MOST_DIGITS ? LONG_NUMBER : NUMBER + value, from);
            return to;
        }

        private boolean isSmall(int at) {
            return bytes[at] >= 'a' && bytes[at] <= 'z';
        }

        private boolean isDigit(int at) {
            return bytes[at] >= '0' && bytes[at] <= '9';
        }

        int token() {
            return tokens[current];
        }

        void skip() {
            if (current < size - 1) {
                current++;
            }
        }

        boolean takes(int token) {
            if (tokens[current] != token) {
                return false;
            }
            skip();
            return true;
        }

        void wants(int token) {
            if (!takes(token)) {
                blame(FAULT_SIGN);
            }
        }

        void wantsEnd() {
            if (tokens[current] != END) {
                blame(FAULT_SIGN);
            }
        }

        void blame(int kind) {
            if (fault == 0) {
                fault = 1 + 8 * places[current] + kind;
            }
            current = size - 1;
        }

        boolean failed() {
            return fault != 0;
        }

        int number(int least, int most) {
            int value = tokens[current] - NUMBER;
            if (value < 0) {
                blame(FAULT_SIGN);
            } else if (tokens[current] == LONG_NUMBER || value < least || value > most) {
                blame(FAULT_NUMBER);
            } else {
                skip();
            }
            return value;
        }
    }

    /** A set of WORLDS, of 256 at most: a bit each, those of the WORLDS 0 to 63 in a. */
    private static final class Worlds {
        // In which of 64 WORLDS that follow one another a FACT is so, for the FACTS 0 to 5.
        private static final long[] LOW_FACTS = {
            0xAAAAAAAAAAAAAAAAL, 0xCCCCCCCCCCCCCCCCL, 0xF0F0F0F0F0F0F0F0L,
            0xFF00FF00FF00FF00L, 0xFFFF0000FFFF0000L, 0xFFFFFFFF00000000L
        };

        long a;
        long b;
        long c;
        long d;

        void set(long first, long second, long third, long fourth) {
            a = first;
            b = second;
            c = third;
            d = fourth;
        }

        void copyFrom(Worlds other) {
            set(other.a, other.b, other.c, other.d);
        }

        void setAll(int facts) {
            if (facts < LOW_FACTS.length) {
                set((1L << (1 << facts)) - 1, 0, 0, 0);
            } else {
                long second = facts > 6 ? -1L : 0;
                long upper = facts > 7 ? -1L : 0;
                set(-1L, second, upper, upper);
            }
        }

        void setFact(int fact) {
            if (fact >= 0 && fact < LOW_FACTS.length) {
                long row = LOW_FACTS[fact];
                set(row, row, row, row);
            } else if (fact == 6) {
                set(0, -1L, 0, -1L);
            } else {
                set(0, 0, -1L, -1L);
            }
        }

        void invert() {
            set(~a, ~b, ~c, ~d);
        }

        void keep(Worlds other) {
            set(a & other.a, b & other.b, c & other.c, d & other.d);
        }

        void join(Worlds other) {
            set(a | other.a, b | other.b, c | other.c, d | other.d);
        }

        void keepFact(int fact, boolean holds) {
            if (fact >= 0 && fact < LOW_FACTS.length) {
                long row = holds ? LOW_FACTS[fact] : ~LOW_FACTS[fact];
                set(a & row, b & row, c & row, d & row);
            } else if (fact == 6) {
                set(holds ? 0 : a, holds ? b : 0, holds ? 0 : c, holds ? d : 0);
            } else {
                set(holds ? 0 : a, holds ? 0 : b, holds ? c : 0, holds ? d : 0);
            }
        }

        /** With each WORLD comes the one in which that FACT alone is otherwise. */
        void spread(int fact) {
            if (fact >= 0 && fact < LOW_FACTS.length) {
                long with = LOW_FACTS[fact];
                int step = 1 << fact;
                set(spreadRow(a, with, step), spreadRow(b, with, step),
                        spreadRow(c, with, step), spreadRow(d, with, step));
            } else if (fact == 6) {
                set(a | b, a | b, c | d, c | d);
            } else {
                set(a | c, b | d, a | c, b | d);
            }
        }

        private static long spreadRow(long row, long with, int step) {
            return row | (row & with) >>> step | row << step & with;
        }

        int size() {
            return Long.bitCount(a) + Long.bitCount(b) + Long.bitCount(c) + Long.bitCount(d);
        }

        int sizeBeyond(Worlds other) {
            return Long.bitCount(a & ~other.a) + Long.bitCount(b & ~other.b)
                    + Long.bitCount(c & ~other.c) + Long.bitCount(d & ~other.d);
        }

        boolean within(Worlds other) {
            return (a & ~other.a | b & ~other.b | c & ~other.c | d & ~other.d) == 0;
        }

        boolean apart(Worlds other) {
            return (a & other.a | b & other.b | c & other.c | d & other.d) == 0;
        }

        boolean has(int world) {
            long row = world < 128 ? (world < 64 ? a : b) : (world < 192 ? c : d);
            return (row >>> (world & 63) & 1) != 0;
        }

        int leastBeyond(Worlds other) {
            if ((a & ~other.a) != 0) {
                return leastBit(a & ~other.a);
            }
            if ((b & ~other.b) != 0) {
                return 64 + leastBit(b & ~other.b);
            }
            if ((c & ~other.c) != 0) {
                return 128 + leastBit(c & ~other.c);
            }
            if ((d & ~other.d) != 0) {
                return 192 + leastBit(d & ~other.d);
            }
            return NOT_THERE;
        }

        private static int leastBit(long row) {
            return Long.bitCount((row & -row) - 1);
        }

        /** FACTS that are the same in all these WORLDS, as bits. */
        int settledFacts(int facts) {
            Worlds with = new Worlds();
            int bits = 0;
            for (int fact = 0; fact < facts; fact++) {
                with.setFact(fact);
                if (within(with) || apart(with)) {
                    bits |= 1 << fact;
                }
            }
            return bits;
        }
    }

    /** A LAND as it was told; nothing in it changes once it has been read. No FACTS: no LAND. */
    private static final class Land {
        static final int FAR = 1000;
        static final int MOST_CLAUSES = 40;

        int facts;
        int firstFacts;
        int people;
        int firstSides;
        final int[] firstKnown = new int[MOST_PEOPLE];
        final int[] weights = new int[MOST_PEOPLE];
        final int[] prices = new int[MOST_PEOPLE];
        int places;
        final int[] placeFacts = new int[MOST_PLACES];
        int paths;
        final int[] ways = new int[MOST_PLACES * MOST_PLACES];
        int turns;
        final int[] turnFacts = new int[MOST_TURNS];
        final int[] turnDays = new int[MOST_TURNS];

        void readFrom(Text text) {
            text.begin();
            forgetWays();
            readClause(text, 0);
            for (int nth = 1; nth <= Text.SIZE && text.takes(';'); nth++) {
                readClause(text, nth);
            }
            text.wantsEnd();
            findShortestWays();
        }

        private void forgetWays() {
            Arrays.fill(ways, FAR);
            for (int place = 0; place < MOST_PLACES; place++) {
                ways[place * MOST_PLACES + place] = 0;
            }
        }

        private void readClause(Text text, int nth) {
            int kind = text.token();
            if (kind < Text.FACTS || kind > Text.PERSON) {
                text.blame(FAULT_SIGN);
                return;
            }
            if (nth >= MOST_CLAUSES || (kind == Text.FACTS) != (nth == 0) || isFull(kind)) {
                text.blame(FAULT_CLAUSE);
                return;
            }
            text.skip();
            switch (kind) {
                case Text.FACTS:
                    readFacts(text);
                    break;
                case Text.PERSON:
                    readPerson(text);
                    break;
                case Text.PLACE:
                    readPlace(text);
                    break;
                case Text.PATH:
                    readPath(text);
                    break;
                default:
                    readTurn(text);
                    break;
            }
        }

        private boolean isFull(int kind) {
            switch (kind) {
                case Text.PERSON:
                    return people >= MOST_PEOPLE;
                case Text.PLACE:
                    return places >= MOST_PLACES;
                case Text.PATH:
                    return paths >= MOST_PATHS;
                case Text.TURN:
                    return turns >= MOST_TURNS;
                default:
                    return false;
            }
        }

        private void readFacts(Text text) {
            int many = text.number(1, MOST_FACTS);
            int which = text.number(0, (1 << many) - 1);
            if (!text.failed()) {
                facts = many;
                firstFacts = which;
            }
        }

        private void readPerson(Text text) {
            int side = text.number(0, 1);
            int weight = text.number(1, 128);
            int known = text.number(0, (1 << facts) - 1);
            int price = text.number(0, 99);
            if (!text.failed()) {
                firstSides |= side << people;
                weights[people] = weight;
                firstKnown[people] = known;
                prices[people] = price;
                people++;
            }
        }

        private void readPlace(Text text) {
            int fact = text.number(0, facts - 1);
            if (!text.failed()) {
                placeFacts[places] = fact;
                places++;
            }
        }

        private void readPath(Text text) {
            int one = text.number(0, places - 1);
            if (text.token() == Text.NUMBER + one) {
                text.blame(FAULT_NUMBER);
            }
            int other = text.number(0, places - 1);
            int hours = text.number(1, 9);
            if (!text.failed()) {
                shorten(one, other, hours);
                shorten(other, one, hours);
                paths++;
            }
        }

        private void readTurn(Text text) {
            int fact = text.number(0, facts - 1);
            int day = text.number(1, Days.LAST_TURN);
            if (!text.failed()) {
                turnFacts[turns] = fact;
                turnDays[turns] = day;
                turns++;
            }
        }

        private void shorten(int one, int other, int hours) {
            int index = one * MOST_PLACES + other;
            if (hours < ways[index]) {
                ways[index] = hours;
            }
        }

        private void findShortestWays() {
            for (int by = 0; by < places; by++) {
                for (int one = 0; one < places; one++) {
                    for (int other = 0; other < places; other++) {
                        shorten(one, other, hoursBetween(one, by) + hoursBetween(by, other));
                    }
                }
            }
        }

        /** FAR or more: there is no way. */
        int hoursBetween(int one, int other) {
            return ways[one * MOST_PLACES + other];
        }

        /** FACTS that are the other way behind the TURNS of a DAY, as bits. */
        int turnedOn(int day) {
            int bits = 0;
            for (int turn = 0; turn < turns; turn++) {
                if (turnDays[turn] == day) {
                    bits ^= 1 << turnFacts[turn];
                }
            }
            return bits;
        }
    }

    /** Reads a SAYING as the set of all WORLDS, of 8 FACTS, in which it is so. */
    private static final class SayingReader {
        static final int MOST_LETTERS = 24;

        private final Text text;
        private int letters;

        SayingReader(Text text) {
            this.text = text;
        }

        Worlds read() {
            text.begin();
            letters = 0;
            Worlds whole = readWhole(0);
            text.wantsEnd();
            return whole;
        }

        private Worlds readWhole(int depth) {
            Worlds whole = new Worlds();
            Worlds part = readFact(depth);
            for (int i = 0; i < Text.SIZE; i++) {
                if (text.takes(Text.AND)) {
                    part.keep(readFact(depth));
                } else if (text.takes(Text.OR)) {
                    whole.join(part);
                    part = readFact(depth);
                } else {
                    break;
                }
            }
            whole.join(part);
            return whole;
        }

        private Worlds readFact(int depth) {
            int token = text.token();
            if (token != Text.NOT && token != '[') {
                return readLetter(token);
            }
            if (depth >= MOST_DEEP) {
                text.blame(FAULT_DEEP);
                return new Worlds();
            }
            text.skip();
            if (token == Text.NOT) {
                Worlds turned = readFact(depth + 1);
                turned.invert();
                return turned;
            }
            Worlds inner = readWhole(depth + 1);
            text.wants(']');
            return inner;
        }

        private Worlds readLetter(int token) {
            Worlds row = new Worlds();
            int fact = token - Text.LETTER;
            if (fact < 0 || fact >= MOST_FACTS) {
                text.blame(FAULT_SIGN);
            } else if (letters >= MOST_LETTERS) {
                text.blame(FAULT_MANY);
            } else {
                text.skip();
                letters++;
                row.setFact(fact);
            }
            return row;
        }
    }

    /** Reads a RULE into rows of tokens, each sign behind what it works on. */
    private static final class RuleReader {
        static final int MOST_ITEMS = 60;

        private final Text text;
        private final int[] code = new int[Text.SIZE];
        private int length;
        // VALUES and SIGNS are counted along the text, so the first too many is found at once.
        private int items;
        private int clauses;
        private final int[] starts = new int[MOST_RULE_CLAUSES + 1];
        private final int[] tests = new int[MOST_RULE_CLAUSES];

        RuleReader(Text text) {
            this.text = text;
        }

        void read() {
            text.begin();
            length = 0;
            items = 0;
            clauses = 0;
            readClause();
            for (int i = 0; i < Text.SIZE && text.takes(';'); i++) {
                readClause();
            }
            text.wantsEnd();
        }

        Rule made() {
            return new Rule(Arrays.copyOf(code, length), clauses, starts.clone(), tests.clone());
        }

        private void readClause() {
            if (text.token() != Text.SAY) {
                text.blame(FAULT_SIGN);
                return;
            }
            if (clauses >= MOST_RULE_CLAUSES) {
                text.blame(FAULT_CLAUSE);
                return;
            }
            text.skip();
            readSum();
            tests[clauses] = length;
            if (text.takes(Text.IF)) {
                readTest(0);
            }
            clauses++;
            starts[clauses] = length;
        }

        private void readTest(int depth) {
            boolean either = false;
            readFact(depth);
            for (int i = 0; i < Text.SIZE; i++) {
                if (text.takes(Text.AND)) {
                    readFact(depth);
                    emit(Text.AND);
                } else if (text.takes(Text.OR)) {
                    if (either) {
                        emit(Text.OR);
                    }
                    either = true;
                    readFact(depth);
                } else {
                    break;
                }
            }
            if (either) {
                emit(Text.OR);
            }
        }

        private void readFact(int depth) {
            int token = text.token();
            if (token != Text.NOT && token != '[') {
                readSum();
                int sign = takeItem(isComparison(text.token()));
                readSum();
                emit(sign);
                return;
            }
            if (depth >= MOST_DEEP) {
                text.blame(FAULT_DEEP);
                return;
            }
            text.skip();
            if (token == Text.NOT) {
                readFact(depth + 1);
                emit(Text.NOT);
            } else {
                readTest(depth + 1);
                text.wants(']');
            }
        }

        private void readSum() {
            int pending = NONE;
            emit(takeItem(isValue(text.token())));
            for (int i = 0; i < Text.SIZE; i++) {
                int sign = text.token();
                if (sign == '*' || sign == '/' || sign == '%') {
                    text.skip();
                    emit(takeItem(isValue(text.token())));
                    emit(sign);
                } else if (sign == '+' || sign == '-') {
                    text.skip();
                    emit(pending);
                    pending = sign;
                    emit(takeItem(isValue(text.token())));
                } else {
                    break;
                }
            }
            emit(pending);
        }

        private static boolean isComparison(int token) {
            return token == '<' || token == Text.AT_MOST || token == '='
                    || token == Text.AT_LEAST || token == '>';
        }

        private static boolean isValue(int token) {
            return token >= Text.NUMBER || token >= Text.PERSON && token <= Text.PRICE;
        }

        /** Takes the VALUE or the SIGN that stands here, if it can, and answers its token. */
        private int takeItem(boolean canStand) {
            int token = text.token();
            if (!canStand) {
                text.blame(FAULT_SIGN);
            } else if (token == Text.LONG_NUMBER) {
                text.blame(FAULT_NUMBER);
            } else if (items >= MOST_ITEMS) {
                text.blame(FAULT_MANY);
            } else {
                items++;
                text.skip();
            }
            return token;
        }

        private void emit(int token) {
            if (token != NONE && length < code.length) {
                code[length] = token;
                length++;
            }
        }
    }

    /** A RULE: of each CLAUSE the tokens of its SUM, then of its TEST. */
    private static final class Rule {
        static final int WORDS = Text.PRICE - Text.PERSON + 1;
        // Two for each bracket that is open, and six for what stands in the innermost.
        static final int MOST_OPEN = 2 * MOST_DEEP + 6;

        private final int[] code;
        private final int clauses;
        private final int[] starts;
        private final int[] tests;
        private final long[] open = new long[MOST_OPEN];

        Rule(int[] code, int clauses, int[] starts, int[] tests) {
            this.code = code;
            this.clauses = clauses;
            this.starts = starts;
            this.tests = tests;
        }

        /** What the words from person to price mean stands in a row. */
        long sumFor(long[] words) {
            for (int clause = 0; clause < clauses; clause++) {
                int test = tests[clause];
                int behind = starts[clause + 1];
                if (test == behind || work(test, behind, words) != 0) {
                    return work(starts[clause], test, words);
                }
            }
            return 0;
        }

        private long work(int from, int to, long[] words) {
            int top = 0;
            for (int i = from; i < to; i++) {
                int token = code[i];
                int word = token - Text.PERSON;
                if (token == Text.NOT) {
                    if (top < 1) {
                        return 0;
                    }
                    open[top - 1] = 1 - open[top - 1];
                } else if (token >= Text.NUMBER || word >= 0 && word < words.length) {
                    if (top >= MOST_OPEN) {
                        return 0;
                    }
                    open[top] = token >= Text.NUMBER ? token - Text.NUMBER : words[word];
                    top++;
                } else {
                    if (top < 2) {
                        return 0;
                    }
                    top--;
                    open[top - 1] = joined(token, open[top - 1], open[top]);
                }
            }
            return open[0];
        }

        private static long joined(int sign, long left, long right) {
            switch (sign) {
                case Text.OR:
                    return left | right;
                case Text.AND:
                    return left & right;
                case '+':
                    return left + right;
                case '-':
                    return left - right;
                case '*':
                    return left * right;
                case '/':
                    return right == 0 ? 0 : left / right;
                case '%':
                    return right == 0 ? 0 : left % right;
                default:
                    return holds(sign, left, right) ? 1 : 0;
            }
        }

        private static boolean holds(int sign, long left, long right) {
            switch (sign) {
                case '<':
                    return left < right;
                case Text.AT_MOST:
                    return left <= right;
                case '=':
                    return left == right;
                case Text.AT_LEAST:
                    return left >= right;
                default:
                    return left > right;
            }
        }
    }

    /** All that ACTS change: the DAY, the FACTS, where PEOPLE are, and who HOLDS what. */
    private static final class Moment {
        int day;
        int facts;
        int sides;
        int fallen;
        final int[] hours = new int[MOST_PEOPLE];
        // The bridge first, then the PEOPLE.
        private final Worlds[] held = new Worlds[MOST_PEOPLE + 1];

        Moment() {
            for (int i = 0; i < held.length; i++) {
                held[i] = new Worlds();
            }
        }

        void copyFrom(Moment other) {
            day = other.day;
            facts = other.facts;
            sides = other.sides;
            fallen = other.fallen;
            for (int person = 0; person < MOST_PEOPLE; person++) {
                hours[person] = other.hours[person];
            }
            for (int i = 0; i < held.length; i++) {
                held[i].copyFrom(other.held[i]);
            }
        }

        void startIn(Land land) {
            day = 0;
            facts = land.firstFacts;
            sides = land.firstSides;
            fallen = 0;
            Arrays.fill(hours, 0);
            for (int i = 0; i < held.length; i++) {
                held[i].setAll(land.facts);
            }
            for (int person = 0; person < land.people; person++) {
                for (int fact = 0; fact < land.facts; fact++) {
                    if ((land.firstKnown[person] >> fact & 1) != 0) {
                        heldBy(person).keepFact(fact, isFact(fact));
                    }
                }
            }
        }

        /** What a PERSON HOLDS, or the bridge, if NONE is asked for. */
        Worlds heldBy(int person) {
            return held[person + 1];
        }

        boolean isFact(int fact) {
            return (facts >> fact & 1) != 0;
        }

        int sideOf(int person) {
            return sides >> person & 1;
        }

        boolean hasFallen(int person) {
            return (fallen >> person & 1) != 0;
        }

        int crossBy(int person, int weight, Worlds saying) {
            Worlds bridge = heldBy(NONE);
            int gained = bridge.sizeBeyond(saying);
            if (!saying.has(facts) || gained == 0) {
                fallen |= 1 << person;
                return saying.has(facts) ? WAS_KNOWN : IS_NOT_SO;
            }
            bridge.keep(saying);
            if (gained < weight) {
                return TO_THE_MIDDLE;
            }
            sides ^= 1 << person;
            return OVER;
        }

        void passMidnight(Land land) {
            day++;
            fallen = 0;
            Arrays.fill(hours, 0);
            facts ^= land.turnedOn(day);
            for (int turn = 0; turn < land.turns; turn++) {
                if (land.turnDays[turn] == day) {
                    forget(land.turnFacts[turn], land.people);
                }
            }
        }

        private void forget(int fact, int people) {
            for (int person = NONE; person < people; person++) {
                heldBy(person).spread(fact);
            }
        }
    }

    /** All that an IMAGE keeps. */
    private static final class Page {
        static final int MOST_UNDONE = 20;

        Land land = new Land();
        final Moment moment = new Moment();
        // Made when they are first needed: most objects have few ACTS.
        private final Moment[] past = new Moment[MOST_UNDONE];
        int undoable;
        int trials;
        final int[] trialSayings = new int[MOST_TRIALS];
        int trialFalls;
        int x;

        boolean hasLand() {
            return land.facts > 0;
        }

        void settle(Land told) {
            land = told;
            moment.startIn(told);
            undoable = 0;
            trials = 0;
        }

        void copyFrom(Page other) {
            land = other.land;
            moment.copyFrom(other.moment);
            undoable = other.undoable;
            for (int i = 0; i < undoable; i++) {
                keepPast(i, other.past[i]);
            }
            trials = other.trials;
            for (int i = 0; i < trials; i++) {
                trialSayings[i] = other.trialSayings[i];
            }
            trialFalls = other.trialFalls;
            x = other.x;
        }

        /** To be called ahead of each ACT. */
        void remember() {
            if (undoable == MOST_UNDONE) {
                forgetOldest();
            }
            keepPast(undoable, moment);
            undoable++;
        }

        private void forgetOldest() {
            Moment oldest = past[0];
            for (int i = 1; i < MOST_UNDONE; i++) {
                past[i - 1] = past[i];
            }
            past[MOST_UNDONE - 1] = oldest;
            undoable--;
        }

        private void keepPast(int index, Moment what) {
            if (what == null) {
                return;
            }
            Moment kept = past[index];
            if (kept == null) {
                kept = new Moment();
                past[index] = kept;
            }
            kept.copyFrom(what);
        }

        int takeBack() {
            if (undoable == 0) {
                return NOT_THERE;
            }
            undoable--;
            Moment kept = past[undoable];
            if (kept != null) {
                moment.copyFrom(kept);
            }
            return undoable;
        }

        void addTrial(int saying, boolean fell) {
            trialSayings[trials] = saying;
            trialFalls &= ~(1 << trials);
            if (fell) {
                trialFalls |= 1 << trials;
            }
            trials++;
        }

        boolean fellIn(int trial) {
            return (trialFalls >> trial & 1) != 0;
        }
    }

    /** The SAYINGS, what FOLLOWS from them, and what ANOTHER BRIDGE was told of them. */
    private static final class Sayings {
        final Worlds[] rows = new Worlds[MOST_SAYINGS];
        int size;
        private final Worlds meet = new Worlds();
        private final int[] following = new int[MOST_SAYINGS];
        private int fitting;
        private int inAll;
        private int inAny;

        Sayings() {
            for (int i = 0; i < MOST_SAYINGS; i++) {
                rows[i] = new Worlds();
            }
        }

        int add(Worlds read) {
            rows[size].copyFrom(read);
            size++;
            return size - 1;
        }

        private void meetAll(int facts, int set) {
            meet.setAll(facts);
            for (int i = 0; i < size && set >> i != 0; i++) {
                if ((set >> i & 1) != 0) {
                    meet.keep(rows[i]);
                }
            }
        }

        boolean followsFrom(int facts, int set, int saying) {
            meetAll(facts, set);
            return meet.within(rows[saying]);
        }

        int fewestOf(int facts, int set, int saying) {
            if (!followsFrom(facts, set, saying)) {
                return NOT_THERE;
            }
            int best = set;
            int fewest = Integer.bitCount(set);
            int subsets = 1 << fewest;
            int subset = 0;
            for (int i = 0; i < subsets; i++) {
                int many = Integer.bitCount(subset);
                if (many < fewest && followsFrom(facts, subset, saying)) {
                    best = subset;
                    fewest = many;
                }
                // The next greater one of the bits in set.
                subset = subset - set & set;
            }
            return best;
        }

        boolean areOpposite(int facts, int one, int other) {
            meet.setAll(facts);
            meet.keep(rows[one]);
            return meet.apart(rows[other]);
        }

        int fittingSets(Page page, int what) {
            siftSets(page);
            if (what == 0 || fitting == 0) {
                return fitting;
            }
            return what == 1 ? inAll : firstSayings() & ~inAny;
        }

        int bestTrial(Page page, int what) {
            siftSets(page);
            int best = NOT_THERE;
            int fewest = 0;
            for (int i = 0; i < size && fitting > 0; i++) {
                int greater = Math.max(following[i], fitting - following[i]);
                if (best == NOT_THERE || greater < fewest) {
                    best = i;
                    fewest = greater;
                }
            }
            return what == 0 || best == NOT_THERE ? best : fewest;
        }

        private int firstSayings() {
            return (1 << Math.min(size, FIRST_SAYINGS)) - 1;
        }

        private void siftSets(Page page) {
            int all = firstSayings();
            fitting = 0;
            inAll = all;
            inAny = 0;
            Arrays.fill(following, 0);
            for (int set = 0; set <= all; set++) {
                meetAll(page.land.facts, set);
                if (fitsTrials(page)) {
                    fitting++;
                    inAll &= set;
                    inAny |= set;
                    countFollowing();
                }
            }
        }

        private boolean fitsTrials(Page page) {
            for (int trial = 0; trial < page.trials; trial++) {
                if (meet.within(rows[page.trialSayings[trial]]) != page.fellIn(trial)) {
                    return false;
                }
            }
            return true;
        }

        private void countFollowing() {
            for (int i = 0; i < size; i++) {
                if (meet.within(rows[i])) {
                    following[i]++;
                }
            }
        }
    }

    /** How one gets over: LEAST, PLANS, WALKS, and what is BOUGHT. */
    private static final class Adviser {
        static final int MOST_PLANNED = 4;
        static final int STEPS = MOST_PLANNED * FIRST_SAYINGS;
        static final int PLAN_SETS = 1 << FIRST_SAYINGS;

        private final Page page;
        private final Sayings sayings;
        private final Worlds mind = new Worlds();
        private final Worlds[] planned = new Worlds[MOST_PLANNED + 1];
        private final int[] crossers = new int[MOST_PLANNED];
        private final int[] crossersKnow = new int[MOST_PLANNED];
        private int crosserCount;
        // The best from here, by who is over already and what the bridge was told: no order of
        // these matters, so few of all plans need be gone through.
        private final int[] plans = new int[(1 << MOST_PLANNED) * PLAN_SETS];

        Adviser(Page page, Sayings sayings) {
            this.page = page;
            this.sayings = sayings;
            for (int i = 0; i < planned.length; i++) {
                planned[i] = new Worlds();
            }
        }

        private boolean bears(Worlds bridge, int person, int saying) {
            Worlds told = sayings.rows[saying];
            return told.has(page.moment.facts)
                    && bridge.sizeBeyond(told) >= page.land.weights[person];
        }

        /** SAYINGS by which a PERSON would get over, as bits. */
        private int bearing(Worlds bridge, int person) {
            int bits = 0;
            if (!page.moment.hasFallen(person)) {
                for (int i = 0; i < sayings.size; i++) {
                    if (bears(bridge, person, i)) {
                        bits |= 1 << i;
                    }
                }
            }
            return bits;
        }

        /** Those of some SAYINGS that are KNOWN to one who HOLDS these WORLDS. */
        private int known(Worlds held, int bits) {
            int known = 0;
            for (int i = 0; i < sayings.size; i++) {
                if ((bits >> i & 1) != 0 && held.within(sayings.rows[i])) {
                    known |= 1 << i;
                }
            }
            return known;
        }

        int leastOf(int person, int what) {
            Worlds bridge = page.moment.heldBy(NONE);
            int ways = known(page.moment.heldBy(person), bearing(bridge, person));
            int best = NOT_THERE;
            int fewest = 0;
            for (int i = 0; i < sayings.size; i++) {
                if ((ways >> i & 1) != 0) {
                    int gained = bridge.sizeBeyond(sayings.rows[i]);
                    if (best == NOT_THERE || gained < fewest) {
                        best = i;
                        fewest = gained;
                    }
                }
            }
            return what == 0 || best == NOT_THERE ? best : othersBehind(person, best);
        }

        private int othersBehind(int person, int saying) {
            Moment moment = page.moment;
            mind.copyFrom(moment.heldBy(NONE));
            mind.keep(sayings.rows[saying]);
            int others = 0;
            for (int other = 0; other < page.land.people; other++) {
                boolean beside = other != person && moment.sideOf(other) == moment.sideOf(person);
                if (beside && known(moment.heldBy(other), bearing(mind, other)) != 0) {
                    others++;
                }
            }
            return others;
        }

        int planFor(int side, int what) {
            if (!gatherCrossers(side)) {
                return TOO_MANY;
            }
            Arrays.fill(plans, NONE);
            planned[0].copyFrom(page.moment.heldBy(NONE));
            int most = bestFrom(0, 0, 0) / STEPS;
            if (what == 0) {
                return most;
            }
            int nth = (what - 1) / 2;
            if (nth >= most) {
                return NOT_THERE;
            }
            int step = stepOfPlan(nth);
            return what % 2 == 1 ? crossers[step / FIRST_SAYINGS] : step % FIRST_SAYINGS;
        }

        private boolean gatherCrossers(int side) {
            Moment moment = page.moment;
            int first = (1 << FIRST_SAYINGS) - 1;
            crosserCount = 0;
            for (int person = 0; person < page.land.people; person++) {
                if (moment.sideOf(person) == side && !moment.hasFallen(person)) {
                    if (crosserCount >= MOST_PLANNED) {
                        return false;
                    }
                    crossers[crosserCount] = person;
                    crossersKnow[crosserCount] = known(moment.heldBy(person), first);
                    crosserCount++;
                }
            }
            return true;
        }

        /** A step is a crosser and a SAYING; whether it can be taken from planned[depth]. */
        private boolean isStep(int depth, int step, int over) {
            int crosser = step / FIRST_SAYINGS;
            int saying = step % FIRST_SAYINGS;
            return (over >> crosser & 1) == 0 && (crossersKnow[crosser] >> saying & 1) != 0
                    && bears(planned[depth], crossers[crosser], saying);
        }

        /** The first of the steps behind which most get over, and how many do, kept together. */
        private int bestFrom(int depth, int over, int told) {
            if (depth >= crosserCount) {
                return 0;
            }
            int index = over * PLAN_SETS + told;
            if (plans[index] != NONE) {
                return plans[index];
            }
            int best = 0;
            for (int step = 0; step < crosserCount * FIRST_SAYINGS; step++) {
                if (isStep(depth, step, over)) {
                    planned[depth + 1].copyFrom(planned[depth]);
                    planned[depth + 1].keep(sayings.rows[step % FIRST_SAYINGS]);
                    int then = bestFrom(depth + 1, overBy(over, step), toldBy(told, step));
                    int most = 1 + then / STEPS;
                    if (most > best / STEPS) {
                        best = most * STEPS + step;
                    }
                }
            }
            plans[index] = best;
            return best;
        }

        private static int overBy(int over, int step) {
            return over | 1 << step / FIRST_SAYINGS;
        }

        private static int toldBy(int told, int step) {
            return told | 1 << step % FIRST_SAYINGS;
        }

        private int stepOfPlan(int nth) {
            int over = 0;
            int told = 0;
            for (int i = 0; i < nth; i++) {
                int step = plans[over * PLAN_SETS + told] % STEPS;
                over = overBy(over, step);
                told = toldBy(told, step);
            }
            return plans[over * PLAN_SETS + told] % STEPS;
        }

        int walkOf(int person, int what) {
            int left = HOURS_A_DAY - page.moment.hours[person];
            int ways = bearing(page.moment.heldBy(NONE), person);
            int best = NOT_THERE;
            int fewest = left + 1;
            for (int set = 0; set < 1 << page.land.places; set++) {
                int hours = hoursThrough(0, set & ~1, 0);
                if (hours < fewest) {
                    lookAround(person, set);
                    if (known(mind, ways) != 0) {
                        best = set;
                        fewest = hours;
                    }
                }
            }
            return what == 1 || best == NOT_THERE ? best : fewest;
        }

        /** The shortest walk from a PLACE through others, then to PLACE 0. */
        private int hoursThrough(int from, int others, int depth) {
            if (others == 0 || depth >= MOST_PLACES) {
                return page.land.hoursBetween(from, 0);
            }
            int fewest = Land.FAR;
            for (int place = 0; place < MOST_PLACES; place++) {
                if ((others >> place & 1) != 0) {
                    int hours = page.land.hoursBetween(from, place)
                            + hoursThrough(place, others & ~(1 << place), depth + 1);
                    fewest = Math.min(fewest, hours);
                }
            }
            return fewest;
        }

        private void lookAround(int person, int set) {
            mind.copyFrom(page.moment.heldBy(person));
            for (int place = 0; place < page.land.places; place++) {
                if ((set >> place & 1) != 0) {
                    int seen = page.land.placeFacts[place];
                    mind.keepFact(seen, page.moment.isFact(seen));
                }
            }
        }

        int boughtFor(int person, int what) {
            int ways = bearing(page.moment.heldBy(NONE), person);
            int best = NOT_THERE;
            int fewest = 0;
            for (int set = 0; set < 1 << page.land.people; set++) {
                int coins = priceOf(set);
                boolean cheaper = best == NOT_THERE || coins < fewest;
                if (cheaper && (set >> person & 1) == 0) {
                    listenTo(person, set);
                    if (known(mind, ways) != 0) {
                        best = set;
                        fewest = coins;
                    }
                }
            }
            return what == 1 || best == NOT_THERE ? best : fewest;
        }

        private int priceOf(int set) {
            int coins = 0;
            for (int person = 0; person < page.land.people; person++) {
                if ((set >> person & 1) != 0) {
                    coins += page.land.prices[person];
                }
            }
            return coins;
        }

        private void listenTo(int person, int set) {
            mind.copyFrom(page.moment.heldBy(person));
            for (int other = 0; other < page.land.people; other++) {
                if ((set >> other & 1) != 0) {
                    mind.keep(page.moment.heldBy(other));
                }
            }
        }
    }

    /** DAYS that go by: BY A RULE, in YEARS drawn, and by TURNS alone. */
    private static final class Days {
        static final int LOOKED_AT = 100;
        static final int LAST_TURN = 99;

        private final Page page;
        private final Sayings sayings;
        private final long[] words = new long[Rule.WORDS];
        private final Moment drawn = new Moment();
        private int x;
        private int over;
        private int fell;

        Days(Page page, Sayings sayings) {
            this.page = page;
            this.sayings = sayings;
        }

        int byRule(Rule rule, int n) {
            Moment moment = page.moment;
            Land land = page.land;
            int crossed = 0;
            for (int i = 0; i < n; i++) {
                for (int person = 0; person < land.people; person++) {
                    int saying = moment.hasFallen(person) ? NONE : chosenBy(rule, person);
                    if (saying != NONE && OVER
                            == moment.crossBy(person, land.weights[person], sayings.rows[saying])) {
                        crossed++;
                    }
                }
                moment.passMidnight(land);
            }
            return crossed;
        }

        private int chosenBy(Rule rule, int person) {
            int best = NONE;
            long greatest = 0;
            describe(person);
            for (int saying = 0; saying < sayings.size; saying++) {
                describeSaying(person, saying);
                long sum = rule.sumFor(words);
                if (sum > greatest) {
                    best = saying;
                    greatest = sum;
                }
            }
            return best;
        }

        private void describe(int person) {
            Moment moment = page.moment;
            words[0] = person;
            words[Text.SIDE - Text.PERSON] = moment.sideOf(person);
            words[Text.WEIGHT - Text.PERSON] = page.land.weights[person];
            words[Text.LEFT - Text.PERSON] = moment.heldBy(NONE).size();
            words[Text.HERE - Text.PERSON] = othersBeside(person);
            words[Text.DAY - Text.PERSON] = moment.day;
            words[Text.PRICE - Text.PERSON] = page.land.prices[person];
        }

        private void describeSaying(int person, int saying) {
            Worlds row = sayings.rows[saying];
            words[Text.SAYING - Text.PERSON] = saying;
            words[Text.KNOWS - Text.PERSON] = page.moment.heldBy(person).within(row) ? 1 : 0;
            words[Text.GAIN - Text.PERSON] = page.moment.heldBy(NONE).sizeBeyond(row);
        }

        private int othersBeside(int person) {
            int others = 0;
            for (int other = 0; other < page.land.people; other++) {
                if (other != person && page.moment.sideOf(other) == page.moment.sideOf(person)) {
                    others++;
                }
            }
            return others;
        }

        int drawYears(int m, int n, int what) {
            int worlds = 0;
            x = page.x;
            over = 0;
            fell = 0;
            for (int i = 0; i < m; i++) {
                drawn.copyFrom(page.moment);
                for (int day = 0; day < n; day++) {
                    drawDay();
                    drawn.passMidnight(page.land);
                }
                worlds += drawn.heldBy(NONE).size();
            }
            if (what == 0) {
                return over;
            }
            return what == 1 ? fell : worlds;
        }

        private void drawDay() {
            for (int person = 0; person < page.land.people && sayings.size > 0; person++) {
                if (!drawn.hasFallen(person)) {
                    Worlds saying = sayings.rows[draw() % sayings.size];
                    int came = drawn.crossBy(person, page.land.weights[person], saying);
                    if (came == OVER) {
                        over++;
                    } else if (came != TO_THE_MIDDLE) {
                        fell++;
                    }
                }
            }
        }

        private int draw() {
            x = (int) (x * 1103515245L + 12345L & 0x7FFFFFFFL);
            return x / 65536;
        }

        int firstDay(Worlds saying, int day) {
            Moment moment = page.moment;
            int first = Math.max(day, moment.day);
            int facts = moment.facts;
            for (int i = moment.day + 1; i <= first && i <= LAST_TURN; i++) {
                facts ^= page.land.turnedOn(i);
            }
            for (int i = first; i < first + LOOKED_AT; i++) {
                if (i > first) {
                    facts ^= page.land.turnedOn(i);
                }
                if (saying.has(facts)) {
                    return i;
                }
            }
            return NOT_THERE;
        }
    }
}
