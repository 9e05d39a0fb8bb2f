import java.util.ArrayList;
import java.util.List;

/**
 * Calls on one object, 512 at most. What was told to it can be told again to new objects: on these
 * is looked whether a call that should change nothing has changed anything that can be asked, done
 * or undone later.
 */
final class Story {
    /** One call, or a row of calls whose last answer counts. */
    interface Call {
        int on(TruthBridge bridge);
    }

    /** A call with an argument. */
    interface Of {
        int on(TruthBridge bridge, int value);
    }

    private static final int MOST_CALLS = 512;
    // So many calls are left on each new object for a row that belongs together.
    private static final int LONGEST_ROW = 120;
    private static final List<Story> open = new ArrayList<>();

    private final TruthBridge bridge = new TruthBridge();
    private final List<Call> told = new ArrayList<>();
    private int calls;
    private final List<String> idle = new ArrayList<>();
    private List<Integer> before;
    private TruthBridge eye;
    private int eyeCalls;
    private List<Integer> seen;

    Story() {
        open.add(this);
    }

    /** In a LAND, with its SAYINGS. */
    Story(String land, String... sayings) {
        this();
        land(land, people(land));
        for (int i = 0; i < sayings.length; i++) {
            saying(sayings[i], i);
        }
    }

    private static int people(String land) {
        return land.split("person", -1).length - 1;
    }

    /** A call that may change something. */
    Story due(String what, Call call, int want) {
        settle();
        before = null;
        make(what, call, 1, want);
        return this;
    }

    /** A call that changes nothing: one that asks, or one that is refused. */
    Story idle(String what, Call call, int want) {
        keepBefore();
        make(what, call, 1, want);
        idle.add(what);
        return this;
    }

    /** The arguments from 0 on are answered by a row, and nothing changes. */
    Story each(String what, Of call, int... want) {
        for (int i = 0; i < want.length; i++) {
            int value = i;
            idle(what + " of " + i, b -> call.on(b, value), want[i]);
        }
        return this;
    }

    /** Each of these arguments is answered by the same, and nothing changes. */
    Story all(String what, Of call, int want, int... values) {
        for (int value : values) {
            idle(what + " of " + value, b -> call.on(b, value), want);
        }
        return this;
    }

    /** The arguments from 0 on by a row; those just outside of it, and far from it, by another answer. */
    Story row(String what, Of call, int other, int... want) {
        int many = want.length;
        return each(what, call, want)
                .all(what, call, other, Integer.MIN_VALUE, -2, -1, many, many + 1, 1 << 16, Integer.MAX_VALUE);
    }

    /** DAYS go by BY A RULE by which nobody gets over. */
    Story days(int rule, int days) {
        for (int left = days; left > 0; left -= 60) {
            int n = Math.min(left, 60);
            due("run", b -> b.run(rule, n), 0);
        }
        return this;
    }

    /** Asks another object, to which the same was told: there is no end to such questions. */
    Story asked(String what, Call call, int want) {
        Check.due(what, call.on(eyeFor(1)), want);
        return this;
    }

    /** The TAPE is just this text then. */
    Story tape(String text) {
        return text("the TAPE of", text, b -> b.end(text.length()), text.length());
    }

    Story land(String text, int want) {
        return text("land", text, TruthBridge::land, want);
    }

    Story saying(String text, int want) {
        return text("saying", text, TruthBridge::saying, want);
    }

    Story rule(String text, int want) {
        return text("rule", text, TruthBridge::rule, want);
    }

    /** A text with a FAULT leaves the TAPE empty, and all else as it was. */
    Story wrongLand(String text, int place, int kind) {
        return wrongText("land", text, TruthBridge::land, Check.fault(place, kind));
    }

    Story wrongSaying(String text, int place, int kind) {
        return wrongText("saying", text, TruthBridge::saying, Check.fault(place, kind));
    }

    Story wrongRule(String text, int place, int kind) {
        return wrongText("rule", text, TruthBridge::rule, Check.fault(place, kind));
    }

    private Story wrongText(String kind, String text, Call read, int want) {
        keepBefore();
        make(kind + " " + text, b -> feedAnd(b, text, read), callsFor(text), want);
        idle.add(kind + " " + text);
        return this;
    }

    private Story text(String kind, String text, Call read, int want) {
        settle();
        before = null;
        make(kind + " " + text, b -> feedAnd(b, text, read), callsFor(text), want);
        return this;
    }

    private static int feedAnd(TruthBridge bridge, String text, Call read) {
        Check.feed(bridge, text);
        return read.on(bridge);
    }

    private static int callsFor(String text) {
        return (text.length() + 19) / 20 + 2;
    }

    private void make(String what, Call call, int many, int want) {
        calls += many;
        if (calls > MOST_CALLS) {
            Check.due(what + " comes as call", calls, MOST_CALLS);
        }
        told.add(call);
        eye = null;
        Check.due(what, call.on(bridge), want);
    }

    private void keepBefore() {
        if (before == null) {
            before = everything();
        }
    }

    /** Looks whether the idle calls have changed anything. */
    void settle() {
        if (idle.isEmpty()) {
            return;
        }
        List<Integer> after = everything();
        int same = 0;
        while (same < after.size() && same < before.size() && after.get(same).equals(before.get(same))) {
            same++;
        }
        Check.due("answers that are as they were behind " + idle, same, Math.max(before.size(), after.size()));
        idle.clear();
        before = after;
    }

    static void settleAll() {
        for (Story story : open) {
            story.settle();
        }
        open.clear();
    }

    private TruthBridge again() {
        TruthBridge twin = new TruthBridge();
        for (Call call : told) {
            call.on(twin);
        }
        return twin;
    }

    private List<Integer> everything() {
        if (calls > MOST_CALLS - LONGEST_ROW) {
            Check.due("too many calls to look behind them", calls, MOST_CALLS - LONGEST_ROW);
        }
        seen = new ArrayList<>();
        eye = null;
        seeLand();
        seeSayings();
        seeWorlds();
        seeAdvice();
        seeUndoing();
        seeImages();
        seeRules();
        seeTape();
        return seen;
    }

    private int ask(Call call) {
        int answer = call.on(eyeFor(1));
        seen.add(answer);
        return answer;
    }

    /** An object to which the same was told, and that can be asked so many times more. */
    private TruthBridge eyeFor(int many) {
        if (eye == null || eyeCalls + many > MOST_CALLS) {
            eye = again();
            eyeCalls = calls;
        }
        eyeCalls += many;
        return eye;
    }

    /** Calls that belong together, on an object of their own. */
    private void seeRow(Call... row) {
        TruthBridge twin = again();
        for (int i = 0; i < Math.min(row.length, LONGEST_ROW); i++) {
            seen.add(row[i].on(twin));
        }
    }

    private void seeLand() {
        for (int what = 0; what <= 13; what++) {
            int w = what;
            ask(b -> b.count(w));
        }
        for (int i = 0; i < 8; i++) {
            int k = i;
            ask(b -> b.fact(k));
            ask(b -> b.place(k));
            for (int what = 0; what < 7; what++) {
                int w = what;
                ask(b -> b.person(k, w));
                ask(b -> b.way(k, w));
            }
        }
    }

    private void seeSayings() {
        int sayings = ask(b -> b.count(6));
        for (int i = 0; i < sayings; i++) {
            int s = i;
            ask(b -> b.isTrue(s));
            ask(b -> b.gain(s));
            ask(b -> b.shown(s));
            ask(b -> b.when(s, 0));
            ask(b -> b.follows(1, s));
            ask(b -> b.opposite(0, s));
            for (int p = -1; p < 6; p++) {
                int who = p;
                ask(b -> b.knows(who, s));
            }
        }
    }

    private void seeWorlds() {
        int worlds = 1 << ask(b -> b.count(0));
        int sayings = ask(b -> b.count(6));
        int step = worlds > 32 ? 5 : 1;
        for (int i = 0; i < worlds; i += step) {
            int w = i;
            for (int p = -1; p < 6; p++) {
                int who = p;
                ask(b -> b.possible(who, w));
            }
            for (int k = 0; k < sayings; k++) {
                int s = k;
                ask(b -> b.so(s, w));
            }
        }
    }

    private void seeAdvice() {
        for (int i = 0; i < 9; i++) {
            int w = i;
            ask(b -> b.plan(0, w));
            ask(b -> b.plan(1, w));
            ask(b -> b.sets(w));
            ask(b -> b.next(w));
            ask(b -> b.years(2, 3, w));
        }
        for (int p = 0; p < 6; p++) {
            int who = p;
            for (int what = 0; what < 2; what++) {
                int w = what;
                ask(b -> b.least(who, w));
                ask(b -> b.walk(who, w));
                ask(b -> b.bought(who, w));
            }
        }
    }

    private void seeUndoing() {
        seeRow(repeat(21, TruthBridge::undo, b -> b.count(8), b -> b.count(1), b -> b.count(9)));
        for (int p = 0; p < 6; p++) {
            int who = p;
            seeRow(repeat(21, TruthBridge::undo, b -> b.person(who, 0), b -> b.person(who, 3), b -> b.person(who, 4),
                    b -> b.person(who, 5)));
        }
    }

    private void seeImages() {
        for (int i = 0; i < 4; i++) {
            int k = i;
            seeRow(b -> b.back(k), b -> b.count(0), b -> b.count(1), b -> b.count(8), b -> b.count(9), b -> b.count(10),
                    b -> b.count(11), b -> b.count(12), b -> b.sets(0), b -> b.person(0, 0), b -> b.person(0, 5),
                    b -> b.undo(), b -> b.count(8), b -> b.count(9), b -> b.person(0, 5));
        }
    }

    private void seeRules() {
        for (int i = 0; i < 6; i++) {
            int r = i;
            seeRow(b -> b.run(r, 3), b -> b.count(1), b -> b.count(8), b -> b.count(9), b -> b.person(0, 0),
                    b -> b.person(1, 0), b -> b.person(2, 0), b -> b.run(r, 60), b -> b.count(1), b -> b.count(9));
        }
        seeRow(b -> b.midnight(), b -> b.count(8), b -> b.count(1), b -> b.count(9), b -> b.count(11));
    }

    private void seeTape() {
        seeRow(TruthBridge::land, b -> b.count(0), b -> b.count(1), b -> b.count(2), b -> b.count(13));
        seeRow(TruthBridge::saying, b -> b.count(6), b -> b.so(b.count(6) - 1, 1), b -> b.count(13));
        seeRow(TruthBridge::rule, b -> b.count(7), b -> b.run(b.count(7) - 1, 1), b -> b.count(13));
        seeRow(b -> b.end(b.count(13) - 1), TruthBridge::saying, b -> b.count(6));
    }

    private static Call[] repeat(int times, Call... calls) {
        Call[] all = new Call[times * calls.length];
        for (int i = 0; i < all.length; i++) {
            all[i] = calls[i % calls.length];
        }
        return all;
    }
}
