import java.util.ArrayList;
import java.util.List;
import java.util.function.ToIntFunction;

/**
 * Promise 17: what is tested first, and that a refused call changes nothing.
 * Two objects are made alike, one of them gets the refused call, and after it
 * both must answer alike whatever is asked.
 */
public final class RefusalTest {
    private static final int NONE = PastMonitor.NONE;
    private static final int FULL = PastMonitor.FULL;
    private static final int[] TRUE = {6, 0, 4, 0};
    private static final int[] SEVERAL = {0, 3, 9, 6, 1, 12};
    private static final int[] WRONG_SETS = {-1, 16, -16, 17, 32, Integer.MIN_VALUE, Integer.MAX_VALUE};
    private static final int[] WRONG_TOKENS = {-1, 13, -13, 16, 256, Integer.MIN_VALUE, Integer.MAX_VALUE};
    private static final int PROBES = 8;

    /** How a state is made; each probe asks a new object, since one has 512 calls only. */
    private record State(String name, int[] formula, int[] events) {
        PastMonitor make() {
            return Make.monitor(2, formula, events);
        }
    }

    private static final State NEW = new State("new", Make.formula(), Make.formula());
    private static final State EVENTS_ALONE = new State("events alone", Make.formula(), SEVERAL);
    private static final State OPEN = new State("open", Make.formula(10, 8, 0), SEVERAL);
    private static final State OPEN_14 = new State("14 open tokens", Make.nested(4, 13, 5), SEVERAL);
    private static final State WHOLE = new State("whole", Make.formula(10, 4, 2, 11, 1), SEVERAL);
    private static final State WHOLE_14 = new State("whole with 14", Make.nested(4, 13, 0), SEVERAL);
    private static final State WHOLE_ALONE = new State("whole without events", TRUE, Make.formula());
    private static final State TRUE_ALL = new State("always true", TRUE, SEVERAL);
    private static final State FULL_WHOLE = new State("full and whole", Make.formula(12, 6, 0, 3), row(200));
    private static final State FULL_OPEN = new State("full and open", Make.formula(5, 1), row(200));
    private static final State[] STATES = {NEW, EVENTS_ALONE, OPEN, OPEN_14, WHOLE, WHOLE_14, WHOLE_ALONE,
        TRUE_ALL, FULL_WHOLE, FULL_OPEN};

    public static void main(String[] args) {
        Check.all(
                RefusalTest::noneIsTestedBeforeFull,
                RefusalTest::oneMoreEventIsFullWhenItIsRight,
                RefusalTest::refusedFeed,
                RefusalTest::refusedFeedWhenComplete,
                RefusalTest::refusedFeedWhen14,
                RefusalTest::refusedBack,
                RefusalTest::refusedEvent,
                RefusalTest::refusedEventWhenFull,
                RefusalTest::refusedUndo,
                RefusalTest::refusedNow,
                RefusalTest::refusedAt,
                RefusalTest::refusedCountAndStreak,
                RefusalTest::refusedViolation,
                RefusalTest::refusedWouldHold,
                RefusalTest::questionsChangeNothing);
    }

    private static int[] row(int count) {
        int[] events = new int[count];
        for (int t = 0; t < count; t++) {
            events[t] = (t * 7 + t / 16) % 16;
        }
        return events;
    }

    private static void noneIsTestedBeforeFull() {
        Check.sentence("17: event: NONE is tested before FULL");
        for (State state : new State[] {FULL_WHOLE, FULL_OPEN}) {
            for (int facts : WRONG_SETS) {
                Check.due(state.name() + ": event(" + facts + ")", state.make().event(facts), NONE);
            }
        }
    }

    private static void oneMoreEventIsFullWhenItIsRight() {
        Check.sentence("17: event: FULL is tested after NONE");
        for (State state : new State[] {FULL_WHOLE, FULL_OPEN}) {
            for (int facts = 0; facts < 16; facts++) {
                Check.due(state.name() + ": event(" + facts + ")", state.make().event(facts), FULL);
            }
        }
    }

    private static void refusedFeed() {
        Check.sentence("17: feed of a wrong token changes nothing");
        for (State state : STATES) {
            for (int token : WRONG_TOKENS) {
                refused(state, "feed(" + token + ")", x -> x.feed(token), NONE);
            }
        }
    }

    private static void refusedFeedWhenComplete() {
        Check.sentence("17: feed to a complete formula changes nothing");
        for (State state : new State[] {WHOLE, WHOLE_14, WHOLE_ALONE, TRUE_ALL, FULL_WHOLE}) {
            for (int token = 0; token <= 12; token++) {
                int fed = token;
                refused(state, "feed(" + token + ")", x -> x.feed(fed), NONE);
            }
        }
    }

    private static void refusedFeedWhen14() {
        Check.sentence("17: feed to 14 tokens changes nothing");
        for (int token = 0; token <= 12; token++) {
            int fed = token;
            refused(OPEN_14, "feed(" + token + ")", x -> x.feed(fed), NONE);
        }
    }

    private static void refusedBack() {
        Check.sentence("17: back with no token changes nothing");
        refused(NEW, "back()", x -> x.back(), NONE);
        refused(EVENTS_ALONE, "back()", x -> x.back(), NONE);
    }

    private static void refusedEvent() {
        Check.sentence("17: event with wrong facts changes nothing");
        for (State state : STATES) {
            for (int facts : WRONG_SETS) {
                refused(state, "event(" + facts + ")", x -> x.event(facts), NONE);
            }
        }
    }

    private static void refusedEventWhenFull() {
        Check.sentence("17: event answered by FULL changes nothing");
        for (State state : new State[] {FULL_WHOLE, FULL_OPEN}) {
            for (int facts = 0; facts < 16; facts++) {
                int set = facts;
                refused(state, "event(" + facts + ")", x -> x.event(set), FULL);
            }
        }
    }

    private static void refusedUndo() {
        Check.sentence("17: undo with no event changes nothing");
        refused(NEW, "undo()", x -> x.undo(), NONE);
        refused(WHOLE_ALONE, "undo()", x -> x.undo(), NONE);
    }

    private static void refusedNow() {
        Check.sentence("17: now answered by false changes nothing");
        for (State state : new State[] {NEW, EVENTS_ALONE, OPEN, OPEN_14, WHOLE_ALONE, FULL_OPEN}) {
            refused(state, "now()", x -> number(x.now()), 0);
        }
    }

    private static void refusedAt() {
        Check.sentence("17: at answered by false changes nothing");
        for (State state : STATES) {
            int events = state.events().length;
            for (int t : new int[] {-1, events, events + 1, 200, Integer.MIN_VALUE, Integer.MAX_VALUE}) {
                refused(state, "at(" + t + ")", x -> number(x.at(t)), 0);
            }
        }
        for (State state : new State[] {EVENTS_ALONE, OPEN, OPEN_14, FULL_OPEN}) {
            refused(state, "at(0)", x -> number(x.at(0)), 0);
        }
    }

    private static void refusedCountAndStreak() {
        Check.sentence("17: count and streak without a formula change nothing");
        for (State state : new State[] {NEW, EVENTS_ALONE, OPEN, OPEN_14, FULL_OPEN}) {
            refused(state, "count()", x -> x.count(), NONE);
            refused(state, "streak()", x -> x.streak(), NONE);
        }
    }

    private static void refusedViolation() {
        Check.sentence("17: violation answered by NONE changes nothing");
        for (State state : STATES) {
            int events = state.events().length;
            for (int t : new int[] {-1, events, 200, Integer.MIN_VALUE, Integer.MAX_VALUE}) {
                refused(state, "violation(" + t + ")", x -> x.violation(t), NONE);
            }
        }
        for (State state : new State[] {NEW, EVENTS_ALONE, OPEN, OPEN_14, TRUE_ALL, FULL_OPEN}) {
            refused(state, "violation(0)", x -> x.violation(0), NONE);
        }
    }

    private static void refusedWouldHold() {
        Check.sentence("17: wouldHold answered by false changes nothing");
        for (State state : STATES) {
            for (int facts : WRONG_SETS) {
                refused(state, "wouldHold(" + facts + ")", x -> number(x.wouldHold(facts)), 0);
            }
        }
        for (State state : new State[] {NEW, EVENTS_ALONE, OPEN, OPEN_14, FULL_OPEN}) {
            refused(state, "wouldHold(15)", x -> number(x.wouldHold(15)), 0);
            refused(state, "allowed()", x -> x.allowed(), 0);
        }
    }

    /** Also a question that is answered leaves all as it was. */
    private static void questionsChangeNothing() {
        Check.sentence("15, 16 and the questions 4, 5, 9 to 14: nothing changes");
        for (State state : STATES) {
            for (int facts = 0; facts < 16; facts++) {
                int set = facts;
                unchanged(state, "wouldHold(" + facts + ")", x -> number(x.wouldHold(set)));
            }
            unchanged(state, "allowed()", x -> x.allowed());
            unchanged(state, "complete()", x -> number(x.complete()));
            unchanged(state, "window()", x -> x.window());
            unchanged(state, "events()", x -> x.events());
            unchanged(state, "now()", x -> number(x.now()));
            unchanged(state, "at(0)", x -> number(x.at(0)));
            unchanged(state, "count()", x -> x.count());
            unchanged(state, "violation(0)", x -> x.violation(0));
            unchanged(state, "streak()", x -> x.streak());
        }
    }

    private static int number(boolean answer) {
        return answer ? 1 : 0;
    }

    private static void refused(State state, String name, ToIntFunction<PastMonitor> call, int want) {
        Check.due(state.name() + ": " + name, call.applyAsInt(state.make()), want);
        unchanged(state, name, call);
    }

    private static void unchanged(State state, String name, ToIntFunction<PastMonitor> call) {
        for (int probe = 0; probe < PROBES; probe++) {
            PastMonitor x = state.make();
            call.applyAsInt(x);
            List<Integer> after = ask(x, probe);
            List<Integer> untouched = ask(state.make(), probe);
            Check.due(state.name() + ": all as before " + name + ", probe " + probe, after.equals(untouched), true);
        }
    }

    /** At most 512 calls in all, with those that made the object. */
    private static List<Integer> ask(PastMonitor x, int probe) {
        List<Integer> answers = new ArrayList<>();
        switch (probe) {
            case 0, 1, 2, 3 -> askFact(x, probe, answers);
            case 4 -> askTruth(x, answers);
            case 5 -> askNext(x, answers);
            case 6 -> takeAllAway(x, answers);
            default -> goOn(x, answers);
        }
        return answers;
    }

    /** Where a fact is, asked by the formula of that fact alone. */
    private static void askFact(PastMonitor x, int fact, List<Integer> answers) {
        takeTokensAway(x, answers);
        answers.add(x.feed(fact));
        int events = x.events();
        for (int t = 0; t < events; t++) {
            answers.add(number(x.at(t)));
        }
    }

    private static void askTruth(PastMonitor x, List<Integer> answers) {
        int events = x.events();
        for (int t = 0; t < events; t++) {
            answers.add(number(x.at(t)));
        }
        answers.add(events);
        answers.add(x.window());
        answers.add(number(x.complete()));
        answers.add(number(x.now()));
        answers.add(x.count());
        answers.add(x.streak());
        answers.add(x.allowed());
        answers.add(x.violation(0));
    }

    private static void askNext(PastMonitor x, List<Integer> answers) {
        for (int facts = 0; facts < 16; facts++) {
            answers.add(number(x.wouldHold(facts)));
        }
        answers.add(x.event(5));
        answers.add(number(x.now()));
        answers.add(x.count());
        answers.add(x.event(2));
        answers.add(number(x.now()));
        answers.add(x.undo());
        answers.add(number(x.now()));
    }

    private static void takeAllAway(PastMonitor x, List<Integer> answers) {
        takeTokensAway(x, answers);
        int left = x.undo();
        for (int i = 0; i < 201 && left != NONE; i++) {
            answers.add(left);
            left = x.undo();
        }
        answers.add(x.events());
    }

    private static void takeTokensAway(PastMonitor x, List<Integer> answers) {
        int token = x.back();
        for (int i = 0; i < 15 && token != NONE; i++) {
            answers.add(token);
            token = x.back();
        }
    }

    private static void goOn(PastMonitor x, List<Integer> answers) {
        answers.add(x.feed(4));
        answers.add(x.feed(1));
        answers.add(number(x.complete()));
        answers.add(x.count());
        answers.add(x.violation(0));
        x.restart();
        answers.add(x.event(3));
        answers.add(number(x.now()));
        answers.add(x.events());
    }
}
