/** The boundary cases that promises 6 to 9 name, a method for each. */
public final class EventBoundaryTest {
    private static final int NONE = PastMonitor.NONE;
    private static final int FULL = PastMonitor.FULL;
    /** Their low bits would be good sets, so that a mask or a narrower number type shows. */
    private static final int[] FAR_ABOVE = {17, 31, 32, 256, 259, 65536 + 3, 1 << 30, Integer.MAX_VALUE};
    private static final int[] FAR_BELOW = {-2, -15, -16, -256, -65536 + 3, Integer.MIN_VALUE, Integer.MIN_VALUE + 3};

    public static void main(String[] args) {
        Check.all(
                EventBoundaryTest::eventAnswersItsNumber,
                EventBoundaryTest::eventFactsAtTheirEnds,
                EventBoundaryTest::eventFactsTooSmall,
                EventBoundaryTest::eventFactsTooLarge,
                EventBoundaryTest::eventIsFullAt200,
                EventBoundaryTest::eventFullChangesNothing,
                EventBoundaryTest::eventAfterRoomIsMade,
                EventBoundaryTest::undoAnswersHowManyAreLeft,
                EventBoundaryTest::undoTheOnlyOne,
                EventBoundaryTest::undoWhenThereIsNone,
                EventBoundaryTest::undoWhenFull,
                EventBoundaryTest::undoForgetsTheEvent,
                EventBoundaryTest::restartWithNoEvent,
                EventBoundaryTest::restartWhenFull,
                EventBoundaryTest::restartForgetsWhatTheFormulaSaw,
                EventBoundaryTest::restartKeepsTheFormula,
                EventBoundaryTest::eventsAtItsEnds,
                EventBoundaryTest::eventsAfterRefusals);
    }

    private static void eventAnswersItsNumber() {
        Check.sentence("6: answers its number");
        PastMonitor x = new PastMonitor(0);
        for (int number = 0; number < 200; number++) {
            Check.due("event(5)", x.event(5), number);
        }
    }

    private static void eventFactsAtTheirEnds() {
        Check.sentence("6: 0 and 15 are sets of facts");
        PastMonitor x = new PastMonitor(0);
        Check.due("event(0)", x.event(0), 0);
        Check.due("event(15)", x.event(15), 1);
        for (int fact = 0; fact <= 3; fact++) {
            x.feed(fact);
            Check.dueTruth("fact " + fact, x, "01");
            x.back();
        }
    }

    private static void eventFactsTooSmall() {
        Check.sentence("6: NONE, changing nothing, when facts is not 0 .. 15, too small");
        PastMonitor x = Make.monitor(0, Make.formula(0), 1, 0);
        Check.due("event(-1)", x.event(-1), NONE);
        for (int facts : FAR_BELOW) {
            Check.due("event(" + facts + ")", x.event(facts), NONE);
        }
        Check.dueTruth("the events", x, "10");
        Check.due("the next", x.event(1), 2);
    }

    private static void eventFactsTooLarge() {
        Check.sentence("6: NONE, changing nothing, when facts is not 0 .. 15, too large");
        PastMonitor x = Make.monitor(0, Make.formula(0), 1, 0);
        Check.due("event(16)", x.event(16), NONE);
        for (int facts : FAR_ABOVE) {
            Check.due("event(" + facts + ")", x.event(facts), NONE);
        }
        Check.dueTruth("the events", x, "10");
        Check.due("the next", x.event(1), 2);
    }

    private static void eventIsFullAt200() {
        Check.sentence("6: FULL when 200 are taken");
        PastMonitor x = new PastMonitor(0);
        for (int i = 0; i < 199; i++) {
            x.event(0);
        }
        Check.due("with 199 taken", x.event(0), 199);
        for (int facts = 0; facts < 16; facts++) {
            Check.due("with 200 taken, event(" + facts + ")", x.event(facts), FULL);
        }
    }

    private static void eventFullChangesNothing() {
        Check.sentence("6: FULL, and no event is lost or added");
        PastMonitor x = Make.full(0);
        x.event(15);
        Check.due("events()", x.events(), 200);
        Check.due("at(0)", x.at(0), false);
        x.event(0);
        Check.due("at(1)", x.at(1), true);
        Check.due("at(198)", x.at(198), false);
        Check.due("at(199)", x.at(199), true);
        Check.due("at(200)", x.at(200), false);
        Check.due("count()", x.count(), 100);
    }

    private static void eventAfterRoomIsMade() {
        Check.sentence("6: FULL only as long as 200 are taken");
        PastMonitor x = Make.full(0);
        x.undo();
        Check.due("after undo", x.event(0), 199);
        Check.due("full again", x.event(0), FULL);
        Check.due("the new last", x.now(), false);
        x.restart();
        Check.due("after restart", x.event(1), 0);
    }

    private static void undoAnswersHowManyAreLeft() {
        Check.sentence("7: answers the number of events left");
        PastMonitor x = Make.full();
        for (int left = 199; left >= 0; left--) {
            Check.due("undo()", x.undo(), left);
        }
        Check.due("undo()", x.undo(), NONE);
    }

    private static void undoTheOnlyOne() {
        Check.sentence("7: takes also the only event away");
        PastMonitor x = Make.monitor(0, Make.formula(0), 1);
        Check.due("undo()", x.undo(), 0);
        Check.due("events()", x.events(), 0);
        Check.due("now()", x.now(), false);
        Check.due("at(0)", x.at(0), false);
        Check.due("event(1)", x.event(1), 0);
    }

    private static void undoWhenThereIsNone() {
        Check.sentence("7: NONE when there is none");
        PastMonitor x = Make.monitor(0, Make.formula(8, 0));
        Check.due("undo()", x.undo(), NONE);
        Check.due("undo() again", x.undo(), NONE);
        Check.due("events()", x.events(), 0);
        Check.due("complete()", x.complete(), true);
        Check.due("event(1)", x.event(1), 0);
        x.restart();
        Check.due("undo() after restart", x.undo(), NONE);
        Check.due("back()", x.back(), 0);
    }

    private static void undoWhenFull() {
        Check.sentence("7: takes the last of 200 events away");
        PastMonitor x = Make.full(0);
        x.event(1);
        Check.due("undo()", x.undo(), 199);
        Check.due("now()", x.now(), false);
        Check.due("at(199)", x.at(199), false);
        Check.due("count()", x.count(), 99);
    }

    private static void undoForgetsTheEvent() {
        Check.sentence("7: what was taken away is not judged any more");
        for (int operator : new int[] {7, 8, 11}) {
            PastMonitor x = Make.monitor(12, Make.formula(operator, 0), 0, 1);
            x.undo();
            x.event(0);
            Check.due(operator + " now()", x.now(), false);
            Check.due(operator + " wouldHold(0)", x.wouldHold(0), false);
        }
        for (int operator : new int[] {9, 12}) {
            PastMonitor x = Make.monitor(12, Make.formula(operator, 0), 1, 0);
            Check.due(operator + " now()", x.now(), false);
            x.undo();
            Check.due(operator + " now()", x.now(), true);
            Check.due(operator + " wouldHold(1)", x.wouldHold(1), true);
        }
        PastMonitor x = Make.monitor(0, Make.formula(10, 0, 1), 0, 2);
        x.undo();
        Check.due("SINCE wouldHold(1)", x.wouldHold(1), false);
    }

    private static void restartWithNoEvent() {
        Check.sentence("8: forgets all events, when there is none");
        PastMonitor x = Make.monitor(3, Make.formula(4, 0));
        x.restart();
        x.restart();
        Check.due("events()", x.events(), 0);
        Check.due("undo()", x.undo(), NONE);
        Check.due("complete()", x.complete(), true);
        Check.due("event(0)", x.event(0), 0);
        Check.due("now()", x.now(), true);
    }

    private static void restartWhenFull() {
        Check.sentence("8: forgets all events, when 200 are taken");
        PastMonitor x = Make.full(4, 0);
        x.restart();
        Check.due("events()", x.events(), 0);
        Check.due("at(0)", x.at(0), false);
        Check.due("count()", x.count(), 0);
        Check.due("violation(0)", x.violation(0), NONE);
        for (int number = 0; number < 200; number++) {
            Check.due("event(1)", x.event(1), number);
        }
        Check.due("event(1)", x.event(1), FULL);
        Check.due("count()", x.count(), 0);
    }

    private static void restartForgetsWhatTheFormulaSaw() {
        Check.sentence("8: forgets all events, also for the operators");
        for (int operator : new int[] {7, 8, 11}) {
            PastMonitor x = Make.monitor(12, Make.formula(operator, 0), 1, 1);
            x.restart();
            Check.due(operator + " wouldHold(0)", x.wouldHold(0), false);
            x.event(0);
            Check.due(operator + " now()", x.now(), false);
        }
        for (int operator : new int[] {9, 12}) {
            PastMonitor x = Make.monitor(12, Make.formula(operator, 0), 0, 0);
            x.restart();
            Check.due(operator + " wouldHold(1)", x.wouldHold(1), true);
            x.event(1);
            Check.due(operator + " now()", x.now(), true);
        }
        PastMonitor x = Make.monitor(0, Make.formula(10, 0, 1), 2, 1);
        x.restart();
        Check.due("SINCE wouldHold(1)", x.wouldHold(1), false);
    }

    private static void restartKeepsTheFormula() {
        Check.sentence("8: the formula stays, whole, open or empty");
        int[][] formulas = {{}, {2}, {5, 2}, {10, 1, 2}, Make.nested(4, 13, 3), Make.nested(4, 13, 5)};
        for (int[] formula : formulas) {
            PastMonitor x = Make.monitor(0, formula, 1, 2, 3);
            boolean complete = x.complete();
            x.restart();
            Check.due("complete()", x.complete(), complete);
            for (int i = formula.length - 1; i >= 0; i--) {
                Check.due("back()", x.back(), formula[i]);
            }
            Check.due("back()", x.back(), NONE);
        }
    }

    private static void eventsAtItsEnds() {
        Check.sentence("9: the number of events, from 0 to 200");
        PastMonitor x = new PastMonitor(0);
        for (int number = 0; number < 200; number++) {
            Check.due("events()", x.events(), number);
            x.event(number % 16);
        }
        Check.due("events()", x.events(), 200);
    }

    private static void eventsAfterRefusals() {
        Check.sentence("9: the number of events, after refused calls");
        PastMonitor x = new PastMonitor(0);
        x.undo();
        Check.due("after undo with none", x.events(), 0);
        x.event(-1);
        x.event(16);
        Check.due("after wrong events", x.events(), 0);
        PastMonitor y = Make.full();
        y.event(1);
        y.event(16);
        Check.due("after events that found no room", y.events(), 200);
    }
}
