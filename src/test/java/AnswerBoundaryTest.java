/** The boundary cases that promises 10 to 16 name, a method for each. */
public final class AnswerBoundaryTest {
    private static final int NONE = PastMonitor.NONE;
    private static final int[] FAR_ABOVE = {256, 65536, 1 << 30, Integer.MAX_VALUE - 1, Integer.MAX_VALUE};
    private static final int[] FAR_BELOW = {-2, -200, -256, -65536, Integer.MIN_VALUE, Integer.MIN_VALUE + 1};

    /** OR FACT 0 NOT FACT 0, and AND FACT 0 NOT FACT 0. */
    private static final int[] TRUE = {6, 0, 4, 0};
    private static final int[] FALSE = {5, 0, 4, 0};
    /** None of these is complete; judged all the same, some would be true and some false. */
    private static final int[][] OPEN = {{}, {4}, {5, 0}, {6, 0}, {10, 0}, {7}, {9}, {12}, {4, 4, 4},
        {6, 5, 0, 1}, {4, 4, 4, 4, 4, 4, 4, 4, 4, 4, 4, 4, 4, 4}};

    public static void main(String[] args) {
        Check.all(
                AnswerBoundaryTest::nowWithNoEvent,
                AnswerBoundaryTest::nowWhenNotComplete,
                AnswerBoundaryTest::nowAtTheFirstAndTheLast,
                AnswerBoundaryTest::atTooSmall,
                AnswerBoundaryTest::atTooLarge,
                AnswerBoundaryTest::atTheEnds,
                AnswerBoundaryTest::atWithNoEvent,
                AnswerBoundaryTest::atWhenNotComplete,
                AnswerBoundaryTest::atWhatWasTakenAway,
                AnswerBoundaryTest::countWhenNotComplete,
                AnswerBoundaryTest::countWithNoEvent,
                AnswerBoundaryTest::countNoneAndAll,
                AnswerBoundaryTest::violationFromItsOwnEventOn,
                AnswerBoundaryTest::violationAtTheEnds,
                AnswerBoundaryTest::violationWhenThereIsNone,
                AnswerBoundaryTest::violationFromBehindTheLast,
                AnswerBoundaryTest::violationWhenNegative,
                AnswerBoundaryTest::violationWhenNotComplete,
                AnswerBoundaryTest::violationWithNoEvent,
                AnswerBoundaryTest::streakWhenFalseAtTheLast,
                AnswerBoundaryTest::streakWithNoEvent,
                AnswerBoundaryTest::streakStopsAtABreak,
                AnswerBoundaryTest::streakOverAllEvents,
                AnswerBoundaryTest::streakWhenNotComplete,
                AnswerBoundaryTest::wouldHoldFactsTooSmall,
                AnswerBoundaryTest::wouldHoldFactsTooLarge,
                AnswerBoundaryTest::wouldHoldFactsAtTheirEnds,
                AnswerBoundaryTest::wouldHoldWhenNotComplete,
                AnswerBoundaryTest::wouldHoldWithNoEvent,
                AnswerBoundaryTest::wouldHoldWhen200AreTaken,
                AnswerBoundaryTest::wouldHoldSeesThePast,
                AnswerBoundaryTest::wouldHoldChangesNothing,
                AnswerBoundaryTest::allowedNoneAndAll,
                AnswerBoundaryTest::allowedCountsTheEnds,
                AnswerBoundaryTest::allowedWhenNotComplete,
                AnswerBoundaryTest::allowedWithNoEvent,
                AnswerBoundaryTest::allowedWhen200AreTaken,
                AnswerBoundaryTest::allowedChangesNothing);
    }

    private static void nowWithNoEvent() {
        Check.sentence("10: false when there is no event");
        PastMonitor x = Make.monitor(0, TRUE);
        Check.due("new", x.now(), false);
        x.event(1);
        Check.due("with an event", x.now(), true);
        x.undo();
        Check.due("after undo", x.now(), false);
        x.event(1);
        x.restart();
        Check.due("after restart", x.now(), false);
        Check.due("ALWAYS", Make.monitor(0, Make.formula(9, 0)).now(), false);
        Check.due("STEADY", Make.monitor(0, Make.formula(12, 0)).now(), false);
    }

    private static void nowWhenNotComplete() {
        Check.sentence("10: whether the formula is complete");
        for (int[] open : OPEN) {
            Check.due("set 0, " + open.length + " tokens", Make.monitor(0, open, 0).now(), false);
            Check.due("set 15, " + open.length + " tokens", Make.monitor(0, open, 15).now(), false);
            Check.due("no event, " + open.length + " tokens", Make.monitor(0, open).now(), false);
        }
    }

    private static void nowAtTheFirstAndTheLast() {
        Check.sentence("10: true at the last event");
        Check.due("the only one, true", Make.monitor(0, Make.formula(0), 1).now(), true);
        Check.due("the only one, false", Make.monitor(0, Make.formula(0), 0).now(), false);
        Check.due("true at the last alone", Make.monitor(0, Make.formula(0), 0, 0, 1).now(), true);
        Check.due("false at the last alone", Make.monitor(0, Make.formula(0), 1, 1, 0).now(), false);
        int[] last = Make.oneOf(200, 0, 199, 1);
        Check.due("the 200th, true", Make.monitor(0, Make.formula(0), last).now(), true);
        Check.due("the 200th, false", Make.monitor(0, Make.formula(4, 0), last).now(), false);
    }

    private static void atTooSmall() {
        Check.sentence("11: false when t is not from 0 to events() - 1, too small");
        PastMonitor x = Make.monitor(0, TRUE, 1, 1, 1);
        Check.due("at(-1)", x.at(-1), false);
        for (int t : FAR_BELOW) {
            Check.due("at(" + t + ")", x.at(t), false);
        }
    }

    private static void atTooLarge() {
        Check.sentence("11: false when t is not from 0 to events() - 1, too large");
        PastMonitor x = Make.monitor(0, TRUE, 1, 1, 1);
        Check.due("at(events())", x.at(3), false);
        Check.due("at(events() + 1)", x.at(4), false);
        Check.due("at(199)", x.at(199), false);
        Check.due("at(200)", x.at(200), false);
        for (int t : FAR_ABOVE) {
            Check.due("at(" + t + ")", x.at(t), false);
        }
        PastMonitor full = Make.full(TRUE);
        Check.due("at(200) of 200", full.at(200), false);
        Check.due("at(201) of 200", full.at(201), false);
    }

    private static void atTheEnds() {
        Check.sentence("11: true at event 0 and at event events() - 1");
        PastMonitor x = Make.monitor(0, Make.formula(0), 1, 0, 1);
        Check.due("at(0)", x.at(0), true);
        Check.due("at(1)", x.at(1), false);
        Check.due("at(2)", x.at(2), true);
        PastMonitor full = Make.full(TRUE);
        Check.due("at(0) of 200", full.at(0), true);
        Check.due("at(199) of 200", full.at(199), true);
    }

    private static void atWithNoEvent() {
        Check.sentence("11: false for every t when there is no event");
        PastMonitor x = Make.monitor(0, TRUE);
        for (int t : new int[] {-1, 0, 1, 199, 200}) {
            Check.due("at(" + t + ")", x.at(t), false);
        }
    }

    private static void atWhenNotComplete() {
        Check.sentence("11: whether the formula is complete");
        for (int[] open : OPEN) {
            PastMonitor x = Make.monitor(0, open, 0, 15);
            Check.due("at(0), " + open.length + " tokens", x.at(0), false);
            Check.due("at(1), " + open.length + " tokens", x.at(1), false);
        }
    }

    private static void atWhatWasTakenAway() {
        Check.sentence("11: false at an event that was there before");
        PastMonitor x = Make.monitor(0, TRUE, 1, 1);
        Check.due("at(1)", x.at(1), true);
        x.undo();
        Check.due("at(1) after undo", x.at(1), false);
        x.restart();
        Check.due("at(0) after restart", x.at(0), false);
    }

    private static void countWhenNotComplete() {
        Check.sentence("12: NONE when it is not complete");
        for (int[] open : OPEN) {
            Check.due("no event, " + open.length + " tokens", Make.monitor(0, open).count(), NONE);
            Check.due("two events, " + open.length + " tokens", Make.monitor(0, open, 0, 15).count(), NONE);
        }
        PastMonitor x = Make.full(4, 0);
        x.back();
        Check.due("200 events, the operand taken away", x.count(), NONE);
    }

    private static void countWithNoEvent() {
        Check.sentence("12: the number of events, with no event");
        PastMonitor x = Make.monitor(0, TRUE);
        Check.due("new", x.count(), 0);
        x.event(1);
        Check.due("one event", x.count(), 1);
        x.undo();
        Check.due("after undo", x.count(), 0);
    }

    private static void countNoneAndAll() {
        Check.sentence("12: the number of events, none of them and all");
        Check.due("none of 3", Make.monitor(0, FALSE, 1, 2, 3).count(), 0);
        Check.due("all of 3", Make.monitor(0, TRUE, 1, 2, 3).count(), 3);
        Check.due("none of 200", Make.full(FALSE).count(), 0);
        Check.due("all of 200", Make.full(TRUE).count(), 200);
        Check.due("the first alone", Make.monitor(0, Make.formula(0), Make.oneOf(200, 0, 0, 1)).count(), 1);
        Check.due("the last alone", Make.monitor(0, Make.formula(0), Make.oneOf(200, 0, 199, 1)).count(), 1);
    }

    private static void violationFromItsOwnEventOn() {
        Check.sentence("13: the least event, from t on");
        PastMonitor x = Make.monitor(0, Make.formula(0), 1, 0, 1, 0, 0, 1);
        int[] want = {1, 1, 3, 3, 4, NONE};
        for (int t = 0; t < want.length; t++) {
            Check.due("violation(" + t + ")", x.violation(t), want[t]);
        }
    }

    private static void violationAtTheEnds() {
        Check.sentence("13: the least event, at event 0 and at the last");
        PastMonitor first = Make.monitor(0, Make.formula(0), Make.oneOf(200, 1, 0, 0));
        Check.due("false at 0, violation(0)", first.violation(0), 0);
        Check.due("false at 0, violation(1)", first.violation(1), NONE);
        PastMonitor last = Make.monitor(0, Make.formula(0), Make.oneOf(200, 1, 199, 0));
        Check.due("false at 199, violation(0)", last.violation(0), 199);
        Check.due("false at 199, violation(199)", last.violation(199), 199);
    }

    private static void violationWhenThereIsNone() {
        Check.sentence("13: NONE when there is none");
        PastMonitor x = Make.full(TRUE);
        for (int t : new int[] {0, 1, 198, 199}) {
            Check.due("violation(" + t + ")", x.violation(t), NONE);
        }
    }

    private static void violationFromBehindTheLast() {
        Check.sentence("13: NONE when there is none, from behind the last event");
        PastMonitor x = Make.monitor(0, FALSE, 0, 0, 0);
        Check.due("violation(events() - 1)", x.violation(2), 2);
        Check.due("violation(events())", x.violation(3), NONE);
        Check.due("violation(events() + 1)", x.violation(4), NONE);
        Check.due("violation(199)", x.violation(199), NONE);
        for (int t : FAR_ABOVE) {
            Check.due("violation(" + t + ")", x.violation(t), NONE);
        }
        PastMonitor full = Make.full(FALSE);
        Check.due("violation(199) of 200", full.violation(199), 199);
        Check.due("violation(200) of 200", full.violation(200), NONE);
        full.undo();
        Check.due("violation(199) after undo", full.violation(199), NONE);
    }

    private static void violationWhenNegative() {
        Check.sentence("13: NONE when t is negative");
        PastMonitor x = Make.monitor(0, FALSE, 0, 0, 0);
        Check.due("violation(0)", x.violation(0), 0);
        Check.due("violation(-1)", x.violation(-1), NONE);
        for (int t : FAR_BELOW) {
            Check.due("violation(" + t + ")", x.violation(t), NONE);
        }
    }

    private static void violationWhenNotComplete() {
        Check.sentence("13: NONE when the formula is not complete");
        for (int[] open : OPEN) {
            PastMonitor x = Make.monitor(0, open, 0, 15);
            Check.due("violation(0), " + open.length + " tokens", x.violation(0), NONE);
            Check.due("violation(1), " + open.length + " tokens", x.violation(1), NONE);
        }
    }

    private static void violationWithNoEvent() {
        Check.sentence("13: NONE when there is no event");
        PastMonitor x = Make.monitor(0, FALSE);
        Check.due("violation(0)", x.violation(0), NONE);
        x.event(1);
        Check.due("with an event", x.violation(0), 0);
        x.restart();
        Check.due("after restart", x.violation(0), NONE);
    }

    private static void streakWhenFalseAtTheLast() {
        Check.sentence("14: 0 when it is false at the last one");
        Check.due("the only one", Make.monitor(0, Make.formula(0), 0).streak(), 0);
        Check.due("after true ones", Make.monitor(0, Make.formula(0), 1, 1, 0).streak(), 0);
        Check.due("the last of 200", Make.monitor(0, Make.formula(0), Make.oneOf(200, 1, 199, 0)).streak(), 0);
    }

    private static void streakWithNoEvent() {
        Check.sentence("14: 0 when there is none");
        PastMonitor x = Make.monitor(0, TRUE);
        Check.due("new", x.streak(), 0);
        x.event(1);
        Check.due("one event", x.streak(), 1);
        x.restart();
        Check.due("after restart", x.streak(), 0);
    }

    private static void streakStopsAtABreak() {
        Check.sentence("14: counted back from the last one, without a break");
        Check.due("the last alone", Make.monitor(0, Make.formula(0), 1, 1, 0, 1).streak(), 1);
        Check.due("all but the first", Make.monitor(0, Make.formula(0), 0, 1, 1, 1).streak(), 3);
        Check.due("the nearest break", Make.monitor(0, Make.formula(0), 0, 1, 1, 1, 0, 1, 1).streak(), 2);
        Check.due("break at 0 of 200", Make.monitor(0, Make.formula(0), Make.oneOf(200, 1, 0, 0)).streak(), 199);
        Check.due("break at 198 of 200", Make.monitor(0, Make.formula(0), Make.oneOf(200, 1, 198, 0)).streak(), 1);
    }

    private static void streakOverAllEvents() {
        Check.sentence("14: true at all events");
        Check.due("one", Make.monitor(0, TRUE, 1).streak(), 1);
        Check.due("three", Make.monitor(0, TRUE, 1, 0, 3).streak(), 3);
        Check.due("200", Make.full(TRUE).streak(), 200);
    }

    private static void streakWhenNotComplete() {
        Check.sentence("14: NONE when it is not complete");
        for (int[] open : OPEN) {
            Check.due("no event, " + open.length + " tokens", Make.monitor(0, open).streak(), NONE);
            Check.due("two events, " + open.length + " tokens", Make.monitor(0, open, 0, 15).streak(), NONE);
        }
    }

    private static void wouldHoldFactsTooSmall() {
        Check.sentence("15: false when facts is not 0 .. 15, too small");
        PastMonitor x = Make.monitor(0, TRUE, 1);
        Check.due("wouldHold(-1)", x.wouldHold(-1), false);
        for (int facts : FAR_BELOW) {
            Check.due("wouldHold(" + facts + ")", x.wouldHold(facts), false);
        }
    }

    private static void wouldHoldFactsTooLarge() {
        Check.sentence("15: false when facts is not 0 .. 15, too large");
        PastMonitor x = Make.monitor(0, TRUE, 1);
        Check.due("wouldHold(16)", x.wouldHold(16), false);
        Check.due("wouldHold(17)", x.wouldHold(17), false);
        for (int facts : FAR_ABOVE) {
            Check.due("wouldHold(" + facts + ")", x.wouldHold(facts), false);
        }
        PastMonitor full = Make.full(TRUE);
        Check.due("wouldHold(16) of 200", full.wouldHold(16), false);
        Check.due("wouldHold(-1) of 200", full.wouldHold(-1), false);
    }

    private static void wouldHoldFactsAtTheirEnds() {
        Check.sentence("15: 0 and 15 are sets of facts");
        for (int fact = 0; fact <= 3; fact++) {
            PastMonitor has = Make.monitor(0, Make.formula(fact), 1);
            Check.due("FACT " + fact + " wouldHold(0)", has.wouldHold(0), false);
            Check.due("FACT " + fact + " wouldHold(15)", has.wouldHold(15), true);
            PastMonitor lacks = Make.monitor(0, Make.formula(4, fact), 1);
            Check.due("NOT FACT " + fact + " wouldHold(0)", lacks.wouldHold(0), true);
            Check.due("NOT FACT " + fact + " wouldHold(15)", lacks.wouldHold(15), false);
        }
    }

    private static void wouldHoldWhenNotComplete() {
        Check.sentence("15: false when the formula is not complete");
        for (int[] open : OPEN) {
            PastMonitor x = Make.monitor(0, open, 15);
            Check.due("wouldHold(0), " + open.length + " tokens", x.wouldHold(0), false);
            Check.due("wouldHold(15), " + open.length + " tokens", x.wouldHold(15), false);
        }
    }

    private static void wouldHoldWithNoEvent() {
        Check.sentence("15: at one more event, which is event 0 when there is none");
        Check.due("FACT", Make.monitor(3, Make.formula(0)).wouldHold(1), true);
        Check.due("BEFORE", Make.monitor(3, Make.formula(7, 0)).wouldHold(1), false);
        Check.due("NOT BEFORE", Make.monitor(3, Make.formula(4, 7, 0)).wouldHold(1), true);
        Check.due("ONCE", Make.monitor(3, Make.formula(8, 0)).wouldHold(0), false);
        Check.due("ALWAYS", Make.monitor(3, Make.formula(9, 0)).wouldHold(1), true);
        Check.due("SINCE, first operand", Make.monitor(3, Make.formula(10, 0, 1)).wouldHold(1), false);
        Check.due("SINCE, second operand", Make.monitor(3, Make.formula(10, 0, 1)).wouldHold(2), true);
        Check.due("LATELY", Make.monitor(3, Make.formula(11, 0)).wouldHold(0), false);
        Check.due("STEADY", Make.monitor(3, Make.formula(12, 0)).wouldHold(1), true);
    }

    private static void wouldHoldWhen200AreTaken() {
        Check.sentence("15: it does not matter that 200 may be taken");
        Check.due("FACT 3 of 8", Make.full(3).wouldHold(8), true);
        Check.due("FACT 3 of 7", Make.full(3).wouldHold(7), false);
        // The last of the 200 is the set 7.
        Check.due("BEFORE 0", Make.full(7, 0).wouldHold(0), true);
        Check.due("BEFORE 3", Make.full(7, 3).wouldHold(8), false);
        PastMonitor x = Make.monitor(12, Make.formula(11, 0), Make.oneOf(200, 0, 188, 1));
        Check.due("LATELY, 12 before the 201st", x.wouldHold(0), true);
        x = Make.monitor(12, Make.formula(11, 0), Make.oneOf(200, 0, 187, 1));
        Check.due("LATELY, 13 before the 201st", x.wouldHold(0), false);
        Check.due("event(0)", x.event(0), PastMonitor.FULL);
    }

    private static void wouldHoldSeesThePast() {
        Check.sentence("15: at one more event, after the last one");
        for (int window = 0; window <= 12; window++) {
            String name = "window " + window + ": ";
            PastMonitor edge = Make.monitor(window, Make.formula(11, 0), Make.oneOf(20, 0, 20 - window, 1));
            Check.due(name + "LATELY, inside", edge.wouldHold(0), window > 0);
            PastMonitor out = Make.monitor(window, Make.formula(11, 0), Make.oneOf(20, 0, 19 - window, 1));
            Check.due(name + "LATELY, outside", out.wouldHold(0), false);
            PastMonitor near = Make.monitor(window, Make.formula(12, 0), Make.oneOf(20, 1, 20 - window, 0));
            Check.due(name + "STEADY, inside", near.wouldHold(1), window == 0);
            PastMonitor far = Make.monitor(window, Make.formula(12, 0), Make.oneOf(20, 1, 19 - window, 0));
            Check.due(name + "STEADY, outside", far.wouldHold(1), true);
        }
        Check.due("BEFORE", Make.monitor(0, Make.formula(7, 0), 0, 1).wouldHold(0), true);
        Check.due("not BEFORE", Make.monitor(0, Make.formula(7, 0), 1, 0).wouldHold(1), false);
        Check.due("SINCE", Make.monitor(0, Make.formula(10, 0, 1), 2, 1).wouldHold(1), true);
        Check.due("SINCE broken", Make.monitor(0, Make.formula(10, 0, 1), 2, 0).wouldHold(1), false);
    }

    private static void wouldHoldChangesNothing() {
        Check.sentence("15: nothing changes");
        PastMonitor x = Make.monitor(2, Make.formula(8, 0), 0, 0);
        for (int i = 0; i < 3; i++) {
            Check.due("wouldHold(1)", x.wouldHold(1), true);
            Check.due("wouldHold(0)", x.wouldHold(0), false);
        }
        Check.dueTruth("the events", x, "00");
        Check.due("the next", x.event(0), 2);
        Check.due("now()", x.now(), false);
    }

    private static void allowedNoneAndAll() {
        Check.sentence("16: the number of sets, from 0 to 16");
        Check.due("none", Make.monitor(0, FALSE, 1).allowed(), 0);
        Check.due("all", Make.monitor(0, TRUE, 1).allowed(), 16);
        Check.due("ALWAYS that is broken", Make.monitor(0, Make.formula(9, 0), 0).allowed(), 0);
        Check.due("ONCE that was there", Make.monitor(0, Make.formula(8, 0), 1).allowed(), 16);
        for (int fact = 0; fact <= 3; fact++) {
            Check.due("FACT " + fact, Make.monitor(0, Make.formula(fact), 1).allowed(), 8);
        }
    }

    private static void allowedCountsTheEnds() {
        Check.sentence("16: sets of facts (0 .. 15), both ends");
        int[] onlyAll = {5, 0, 5, 1, 5, 2, 3};
        int[] onlyNone = {4, 6, 0, 6, 1, 6, 2, 3};
        Check.due("15 alone", Make.monitor(0, onlyAll, 1).allowed(), 1);
        Check.due("0 alone", Make.monitor(0, onlyNone, 1).allowed(), 1);
        Check.due("all but 15", Make.monitor(0, Make.formula(4, 5, 0, 5, 1, 5, 2, 3), 1).allowed(), 15);
        Check.due("all but 0", Make.monitor(0, Make.formula(6, 0, 6, 1, 6, 2, 3), 1).allowed(), 15);
    }

    private static void allowedWhenNotComplete() {
        Check.sentence("16: wouldHold is true for no set when the formula is not complete");
        for (int[] open : OPEN) {
            Check.due("no event, " + open.length + " tokens", Make.monitor(0, open).allowed(), 0);
            Check.due("an event, " + open.length + " tokens", Make.monitor(0, open, 15).allowed(), 0);
        }
    }

    private static void allowedWithNoEvent() {
        Check.sentence("16: with no event");
        Check.due("BEFORE", Make.monitor(2, Make.formula(7, 0)).allowed(), 0);
        Check.due("NOT BEFORE", Make.monitor(2, Make.formula(4, 7, 0)).allowed(), 16);
        Check.due("ALWAYS", Make.monitor(2, Make.formula(9, 0)).allowed(), 8);
        Check.due("SINCE", Make.monitor(2, Make.formula(10, 0, 1)).allowed(), 8);
    }

    private static void allowedWhen200AreTaken() {
        Check.sentence("16: with 200 events");
        Check.due("FACT", Make.full(2).allowed(), 8);
        Check.due("BEFORE 2", Make.full(7, 2).allowed(), 16);
        Check.due("BEFORE 3", Make.full(7, 3).allowed(), 0);
        Check.due("all", Make.full(TRUE).allowed(), 16);
    }

    private static void allowedChangesNothing() {
        Check.sentence("16: nothing changes");
        PastMonitor x = Make.monitor(2, Make.formula(8, 0), 0, 0);
        Check.due("allowed()", x.allowed(), 8);
        Check.due("allowed() again", x.allowed(), 8);
        Check.dueTruth("the events", x, "00");
        Check.due("the next", x.event(0), 2);
        Check.due("allowed()", x.allowed(), 8);
    }
}
