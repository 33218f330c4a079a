/** The boundary cases that 'What it is' and 'Terms' name, a method for each. */
public final class TermsBoundaryTest {
    private static final int NONE = PastMonitor.NONE;
    private static final int FULL = PastMonitor.FULL;

    private static final int NOT = 4;
    private static final int AND = 5;
    private static final int OR = 6;
    private static final int BEFORE = 7;
    private static final int ONCE = 8;
    private static final int ALWAYS = 9;
    private static final int SINCE = 10;
    private static final int LATELY = 11;
    private static final int STEADY = 12;

    public static void main(String[] args) {
        Check.all(
                TermsBoundaryTest::theLastPromisedCall,
                TermsBoundaryTest::leastAndGreatestFact,
                TermsBoundaryTest::emptyAndWholeSet,
                TermsBoundaryTest::firstEventHasNumber0,
                TermsBoundaryTest::atMost200Events,
                TermsBoundaryTest::atMost14Tokens,
                TermsBoundaryTest::fourteenTokensAreJudged,
                TermsBoundaryTest::lastOperatorOfFourteenTokens,
                TermsBoundaryTest::everyOperandOfTheWidestFormulaCounts,
                TermsBoundaryTest::deepestWindows,
                TermsBoundaryTest::beforeAtEvent0,
                TermsBoundaryTest::beforeAtEvent1AndTheLast,
                TermsBoundaryTest::onceReachesBothEnds,
                TermsBoundaryTest::alwaysReachesBothEnds,
                TermsBoundaryTest::sinceWithItsWitnessAtBothEnds,
                TermsBoundaryTest::sinceNeedsTheFirstOperandRightAfterOnly,
                TermsBoundaryTest::latelyAtTheEdgesOfTheWindow,
                TermsBoundaryTest::latelyBeforeTheWindowIsFull,
                TermsBoundaryTest::steadyAtTheEdgesOfTheWindow,
                TermsBoundaryTest::steadyBeforeTheWindowIsFull,
                TermsBoundaryTest::windowsOverAFullRow,
                TermsBoundaryTest::completeIsOneWholeFormula,
                TermsBoundaryTest::changedAfterEvents,
                TermsBoundaryTest::changedWhenFull);
    }

    private static void theLastPromisedCall() {
        Check.sentence("What it is: at most 512 calls");
        Check.due("512th call event(1)", spent().event(1), 199);
        Check.due("512th call feed(0)", spent().feed(0), NONE);
        Check.due("512th call back()", spent().back(), 0);
        Check.due("512th call complete()", spent().complete(), true);
        Check.due("512th call window()", spent().window(), 12);
        Check.due("512th call undo()", spent().undo(), 198);
        Check.due("512th call events()", spent().events(), 199);
        Check.due("512th call now()", spent().now(), true);
        Check.due("512th call at(198)", spent().at(198), true);
        Check.due("512th call count()", spent().count(), 199);
        Check.due("512th call violation(0)", spent().violation(0), NONE);
        Check.due("512th call streak()", spent().streak(), 199);
        Check.due("512th call wouldHold(0)", spent().wouldHold(0), true);
        Check.due("512th call allowed()", spent().allowed(), 16);
    }

    /** 511 calls: LATELY FACT 0, 199 events with fact 0, and then events taken away and again. */
    private static PastMonitor spent() {
        PastMonitor x = Make.monitor(12, Make.formula(LATELY, 0), Make.oneOf(199, 1, -1, 0));
        for (int calls = 201; calls < 511; calls += 2) {
            x.undo();
            x.event(1);
        }
        return x;
    }

    private static void leastAndGreatestFact() {
        Check.sentence("Terms: a set of facts 0 .. 3 (bit f for fact f)");
        for (int fact = 0; fact <= 3; fact++) {
            Check.dueTruth("fact " + fact, Make.monitor(0, Make.formula(fact), 1, 2, 4, 8),
                    "0000".substring(0, fact) + "1" + "000".substring(fact));
        }
    }

    private static void emptyAndWholeSet() {
        Check.sentence("Terms: an event is a set, also the empty one and the one of all facts");
        for (int fact = 0; fact <= 3; fact++) {
            Check.dueTruth("fact " + fact, Make.monitor(0, Make.formula(fact), 0, 15, 15 - (1 << fact)), "010");
        }
    }

    private static void firstEventHasNumber0() {
        Check.sentence("Terms: with numbers 0, 1, ..");
        PastMonitor x = Make.monitor(0, Make.formula(1));
        Check.due("first event", x.event(2), 0);
        Check.due("second event", x.event(0), 1);
        Check.due("at(0)", x.at(0), true);
        Check.due("at(1)", x.at(1), false);
    }

    private static void atMost200Events() {
        Check.sentence("Terms: at most 200 are taken");
        PastMonitor x = new PastMonitor(0);
        for (int i = 0; i < 199; i++) {
            x.event(1);
        }
        Check.due("the 200th", x.event(1), 199);
        Check.due("the 201st", x.event(1), FULL);
        Check.due("events()", x.events(), 200);
    }

    private static void atMost14Tokens() {
        Check.sentence("Terms: a list of at most 14 tokens");
        for (int operator = NOT; operator <= STEADY; operator++) {
            PastMonitor x = new PastMonitor(0);
            for (int i = 1; i <= 13; i++) {
                x.feed(operator);
            }
            Check.due("the 14th of " + operator, x.feed(operator), 14);
            Check.due("the 15th of " + operator, x.feed(operator), NONE);
            Check.due("the 15th, a fact after " + operator, x.feed(0), NONE);
        }
    }

    private static void fourteenTokensAreJudged() {
        Check.sentence("Terms: a formula of all 14 tokens is true or false at every event");
        int[] events = {1, 0, 0, 1};
        Check.dueTruth("13 NOT", Make.monitor(0, Make.nested(NOT, 13, 0), events), "0110");
        Check.dueTruth("13 ONCE", Make.monitor(0, Make.nested(ONCE, 13, 0), events), "1111");
        Check.dueTruth("13 ALWAYS", Make.monitor(0, Make.nested(ALWAYS, 13, 0), events), "1000");
        Check.dueTruth("13 LATELY", Make.monitor(0, Make.nested(LATELY, 13, 0), events), "1001");
        Check.dueTruth("13 STEADY", Make.monitor(0, Make.nested(STEADY, 13, 0), events), "1001");
        PastMonitor x = Make.monitor(0, Make.nested(BEFORE, 13, 0), Make.oneOf(16, 0, 1, 1));
        Check.dueTruth("13 BEFORE", x, "0000000000000010");
    }

    /** The 13th token is the last place that an operator can have in a whole formula. */
    private static void lastOperatorOfFourteenTokens() {
        Check.sentence("Terms: the 13th of 14 tokens is judged from the first event too");
        int[] tokens = Make.nested(NOT, 13, 0);
        tokens[12] = ONCE;
        Check.dueTruth("ONCE", Make.monitor(2, tokens, 0, 0, 1), "001");
        tokens[12] = ALWAYS;
        Check.dueTruth("ALWAYS", Make.monitor(2, tokens, 1, 1, 0), "110");
        tokens[12] = BEFORE;
        Check.dueTruth("BEFORE", Make.monitor(2, tokens, 0, 0, 1), "000");
        tokens[12] = LATELY;
        Check.dueTruth("LATELY", Make.monitor(2, tokens, 0, 0, 1), "001");
        tokens[12] = STEADY;
        Check.dueTruth("STEADY", Make.monitor(2, tokens, 1, 1, 0), "110");
        // SINCE needs two tokens behind it, so the 12th is its last place.
        int[] since = {NOT, NOT, NOT, NOT, NOT, NOT, NOT, NOT, NOT, NOT, NOT, SINCE, 0, 1};
        Check.dueTruth("SINCE", Make.monitor(2, since, 1, 1, 2), "110");
    }

    /** NOT over six AND and their seven facts; one of them, the odd one, is fact 1. */
    private static void everyOperandOfTheWidestFormulaCounts() {
        Check.sentence("Terms: what is applied first, over all 14 tokens");
        for (int odd = 0; odd < 7; odd++) {
            Check.dueTruth("left, odd " + odd, Make.monitor(0, nestedLeft(odd), 3, 1, 2, 0, 15), "01110");
            Check.dueTruth("right, odd " + odd, Make.monitor(0, nestedRight(odd), 3, 1, 2, 0, 15), "01110");
        }
    }

    private static int[] nestedLeft(int odd) {
        int[] tokens = {NOT, AND, AND, AND, AND, AND, AND, 0, 0, 0, 0, 0, 0, 0};
        tokens[7 + odd] = 1;
        return tokens;
    }

    private static int[] nestedRight(int odd) {
        int[] tokens = {NOT, AND, 0, AND, 0, AND, 0, AND, 0, AND, 0, AND, 0, 0};
        tokens[odd == 6 ? 13 : 2 + 2 * odd] = 1;
        return tokens;
    }

    private static void deepestWindows() {
        Check.sentence("Terms: 13 windows of 12 within each other reach 156 events back");
        PastMonitor lately = Make.monitor(12, Make.nested(LATELY, 13, 0), Make.oneOf(200, 0, 10, 1));
        Check.due("LATELY at(9)", lately.at(9), false);
        Check.due("LATELY at(10)", lately.at(10), true);
        Check.due("LATELY at(166)", lately.at(166), true);
        Check.due("LATELY at(167)", lately.at(167), false);
        Check.due("LATELY count()", lately.count(), 157);
        PastMonitor steady = Make.monitor(12, Make.nested(STEADY, 13, 0), Make.oneOf(200, 1, 10, 0));
        Check.due("STEADY at(9)", steady.at(9), true);
        Check.due("STEADY at(10)", steady.at(10), false);
        Check.due("STEADY at(166)", steady.at(166), false);
        Check.due("STEADY at(167)", steady.at(167), true);
        Check.due("STEADY count()", steady.count(), 200 - 157);
    }

    private static void beforeAtEvent0() {
        Check.sentence("Terms: BEFORE g, at event 0 false");
        Check.dueTruth("g true at 0", Make.monitor(3, Make.formula(BEFORE, 0), 1), "0");
        Check.dueTruth("g false at 0", Make.monitor(3, Make.formula(BEFORE, 0), 0), "0");
        Check.dueTruth("BEFORE NOT", Make.monitor(3, Make.formula(BEFORE, NOT, 0), 0), "0");
        Check.dueTruth("BEFORE ALWAYS", Make.monitor(3, Make.formula(BEFORE, ALWAYS, 0), 1), "0");
        Check.dueTruth("BEFORE NOT BEFORE", Make.monitor(3, Make.formula(BEFORE, NOT, BEFORE, 0), 1, 1, 1), "010");
        Check.dueTruth("NOT BEFORE", Make.monitor(3, Make.formula(NOT, BEFORE, 0), 1), "1");
        PastMonitor x = Make.monitor(3, Make.formula(BEFORE, 0), 1, 1);
        x.restart();
        x.event(1);
        Check.due("event 0 after restart", x.now(), false);
    }

    private static void beforeAtEvent1AndTheLast() {
        Check.sentence("Terms: BEFORE g, at event t > 0 true when g is at event t - 1");
        Check.dueTruth("at 1", Make.monitor(3, Make.formula(BEFORE, 0), 1, 0, 0), "010");
        Check.dueTruth("at 1, g false at 0", Make.monitor(3, Make.formula(BEFORE, 0), 0, 1, 0), "001");
        PastMonitor x = Make.monitor(3, Make.formula(BEFORE, 0), Make.oneOf(200, 0, 198, 1));
        Check.due("at(198)", x.at(198), false);
        Check.due("at(199)", x.at(199), true);
        Check.due("count()", x.count(), 1);
    }

    private static void onceReachesBothEnds() {
        Check.sentence("Terms: ONCE g, at some event 0 .. t");
        PastMonitor first = Make.monitor(0, Make.formula(ONCE, 0), Make.oneOf(200, 0, 0, 1));
        Check.due("g at 0: at(0)", first.at(0), true);
        Check.due("g at 0: at(199)", first.at(199), true);
        PastMonitor last = Make.monitor(0, Make.formula(ONCE, 0), Make.oneOf(200, 0, 199, 1));
        Check.due("g at 199: at(198)", last.at(198), false);
        Check.due("g at 199: at(199)", last.at(199), true);
        Check.dueTruth("never g", Make.monitor(0, Make.formula(ONCE, 0), 0, 14), "00");
    }

    private static void alwaysReachesBothEnds() {
        Check.sentence("Terms: ALWAYS g, at all events 0 .. t");
        PastMonitor first = Make.monitor(0, Make.formula(ALWAYS, 0), Make.oneOf(200, 1, 0, 0));
        Check.due("not g at 0: at(0)", first.at(0), false);
        Check.due("not g at 0: at(199)", first.at(199), false);
        PastMonitor last = Make.monitor(0, Make.formula(ALWAYS, 0), Make.oneOf(200, 1, 199, 0));
        Check.due("not g at 199: at(0)", last.at(0), true);
        Check.due("not g at 199: at(198)", last.at(198), true);
        Check.due("not g at 199: at(199)", last.at(199), false);
    }

    /** The first operand is fact 0, the second fact 1. */
    private static void sinceWithItsWitnessAtBothEnds() {
        Check.sentence("Terms: SINCE g h, an event s, 0 <= s <= t, at which h is true");
        int[] since = Make.formula(SINCE, 0, 1);
        Check.dueTruth("s = 0 = t", Make.monitor(0, since, 2), "1");
        Check.dueTruth("s = t, g never", Make.monitor(0, since, 0, 0, 2, 0), "0010");
        Check.dueTruth("g alone", Make.monitor(0, since, 1, 1, 1), "000");
        int[] events = Make.oneOf(200, 1, 0, 2);
        Check.due("s = 0, t = 199", Make.monitor(0, since, events).at(199), true);
        Check.due("s = t = 199", Make.monitor(0, since, Make.oneOf(200, 0, 199, 2)).at(199), true);
        Check.due("h after t", Make.monitor(0, since, Make.oneOf(200, 1, 199, 2)).at(198), false);
    }

    private static void sinceNeedsTheFirstOperandRightAfterOnly() {
        Check.sentence("Terms: SINCE g h, g is true at all events s + 1 .. t");
        int[] since = Make.formula(SINCE, 0, 1);
        Check.dueTruth("not g at s itself", Make.monitor(0, since, 2, 1, 1), "111");
        Check.dueTruth("not g at s + 1", Make.monitor(0, since, 2, 0, 1, 1), "1000");
        Check.dueTruth("not g at t", Make.monitor(0, since, 2, 1, 1, 0), "1110");
        Check.dueTruth("broken, then a new s", Make.monitor(0, since, 2, 0, 2, 1), "1011");
        Check.dueTruth("both at s, then neither", Make.monitor(0, since, 3, 0), "10");
        Check.dueTruth("h again while g is not", Make.monitor(0, since, 2, 2, 2, 0), "1110");
    }

    private static void latelyAtTheEdgesOfTheWindow() {
        Check.sentence("Terms: LATELY g, some event s with t - window <= s <= t");
        for (int window = 0; window <= 12; window++) {
            PastMonitor x = Make.monitor(window, Make.formula(LATELY, 0), Make.oneOf(40, 0, 20, 1));
            String name = "window " + window + ": ";
            Check.due(name + "t = s - 1", x.at(19), false);
            Check.due(name + "t = s", x.at(20), true);
            Check.due(name + "t = s + window", x.at(20 + window), true);
            Check.due(name + "t = s + window + 1", x.at(20 + window + 1), false);
            Check.due(name + "count()", x.count(), window + 1);
        }
    }

    private static void latelyBeforeTheWindowIsFull() {
        Check.sentence("Terms: LATELY g, only events s >= 0");
        for (int window = 0; window <= 12; window++) {
            String name = "window " + window + ": ";
            Check.dueTruth(name + "no g", Make.monitor(window, Make.formula(LATELY, 0), 0, 0), "00");
            Check.dueTruth(name + "NOT g at no event", Make.monitor(window, Make.formula(LATELY, NOT, 0), 1, 1), "00");
            PastMonitor x = Make.monitor(window, Make.formula(LATELY, 0), Make.oneOf(20, 0, 0, 1));
            Check.due(name + "g at 0: at(window)", x.at(window), true);
            Check.due(name + "g at 0: at(window + 1)", x.at(window + 1), false);
        }
    }

    private static void steadyAtTheEdgesOfTheWindow() {
        Check.sentence("Terms: STEADY g, all events s with t - window <= s <= t");
        for (int window = 0; window <= 12; window++) {
            PastMonitor x = Make.monitor(window, Make.formula(STEADY, 0), Make.oneOf(40, 1, 20, 0));
            String name = "window " + window + ": ";
            Check.due(name + "t = s - 1", x.at(19), true);
            Check.due(name + "t = s", x.at(20), false);
            Check.due(name + "t = s + window", x.at(20 + window), false);
            Check.due(name + "t = s + window + 1", x.at(20 + window + 1), true);
            Check.due(name + "count()", x.count(), 40 - (window + 1));
        }
    }

    private static void steadyBeforeTheWindowIsFull() {
        Check.sentence("Terms: STEADY g, only events s >= 0");
        for (int window = 0; window <= 12; window++) {
            String name = "window " + window + ": ";
            Check.dueTruth(name + "g so far", Make.monitor(window, Make.formula(STEADY, 0), 1, 1), "11");
            PastMonitor x = Make.monitor(window, Make.formula(STEADY, 0), Make.oneOf(20, 1, 0, 0));
            Check.due(name + "not g at 0: at(window)", x.at(window), false);
            Check.due(name + "not g at 0: at(window + 1)", x.at(window + 1), true);
        }
    }

    private static void windowsOverAFullRow() {
        Check.sentence("Terms: LATELY and STEADY at the last of 200 events");
        PastMonitor lately = Make.monitor(12, Make.formula(LATELY, 0), Make.oneOf(200, 0, 187, 1));
        Check.due("LATELY, g at 187", lately.at(199), true);
        lately = Make.monitor(12, Make.formula(LATELY, 0), Make.oneOf(200, 0, 186, 1));
        Check.due("LATELY, g at 186", lately.at(199), false);
        PastMonitor steady = Make.monitor(12, Make.formula(STEADY, 0), Make.oneOf(200, 1, 187, 0));
        Check.due("STEADY, not g at 187", steady.at(199), false);
        steady = Make.monitor(12, Make.formula(STEADY, 0), Make.oneOf(200, 1, 186, 0));
        Check.due("STEADY, not g at 186", steady.at(199), true);
    }

    private static void completeIsOneWholeFormula() {
        Check.sentence("Terms: COMPLETE when its tokens are one whole formula");
        Check.due("no token", new PastMonitor(0).complete(), false);
        for (int fact = 0; fact <= 3; fact++) {
            Check.due("FACT " + fact, Make.monitor(0, Make.formula(fact)).complete(), true);
        }
        for (int operator : new int[] {NOT, BEFORE, ONCE, ALWAYS, LATELY, STEADY}) {
            Check.due(operator + " alone", Make.monitor(0, Make.formula(operator)).complete(), false);
            Check.due(operator + " g", Make.monitor(0, Make.formula(operator, 3)).complete(), true);
        }
        for (int operator : new int[] {AND, OR, SINCE}) {
            Check.due(operator + " alone", Make.monitor(0, Make.formula(operator)).complete(), false);
            Check.due(operator + " g", Make.monitor(0, Make.formula(operator, 3)).complete(), false);
            Check.due(operator + " g h", Make.monitor(0, Make.formula(operator, 3, 0)).complete(), true);
        }
    }

    private static void changedAfterEvents() {
        Check.sentence("Terms: it can be changed also after events; it is then judged from the first");
        for (int operator : new int[] {ONCE, ALWAYS, BEFORE, LATELY, STEADY}) {
            PastMonitor early = Make.monitor(2, Make.formula(operator, 0), 1, 0, 1, 1, 0, 0, 0);
            PastMonitor late = Make.monitor(2, Make.formula(NOT, 3), 1, 0, 1, 1, 0, 0, 0);
            Check.due("NOT 3 count()", late.count(), 7);
            late.back();
            late.back();
            Make.feedAll(late, operator, 0);
            for (int t = 0; t < 7; t++) {
                Check.due(operator + " fed late: at(" + t + ")", late.at(t), early.at(t));
            }
        }
        PastMonitor since = Make.monitor(2, Make.formula(), 2, 1, 1, 0, 1);
        Make.feedAll(since, SINCE, 0, 1);
        Check.dueTruth("SINCE fed late", since, "11100");
        since.back();
        since.feed(0);
        Check.dueTruth("one token changed", since, "01101");
    }

    private static void changedWhenFull() {
        Check.sentence("Terms: it can be changed at any time, also when 200 are taken");
        PastMonitor x = Make.full();
        Make.feedAll(x, ONCE, 3);
        Check.due("violation(0)", x.violation(0), 0);
        Check.due("violation(8)", x.violation(8), NONE);
        Check.due("count()", x.count(), 192);
        x.back();
        x.feed(0);
        Check.due("count() of ONCE 0", x.count(), 199);
        Check.due("events()", x.events(), 200);
    }
}
