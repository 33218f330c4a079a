/** The boundary cases that promises 1 to 5 name, a method for each. */
public final class FormulaBoundaryTest {
    private static final int NONE = PastMonitor.NONE;
    /** Their low bits would be good tokens, so that a narrower number type shows. */
    private static final int[] FAR_ABOVE = {256, 261, 65536, 65540, 1 << 30, Integer.MAX_VALUE};
    private static final int[] FAR_BELOW = {-2, -13, -256, -65536 + 4, Integer.MIN_VALUE, Integer.MIN_VALUE + 5};

    public static void main(String[] args) {
        Check.all(
                FormulaBoundaryTest::newHasNoEvents,
                FormulaBoundaryTest::newHasNoTokens,
                FormulaBoundaryTest::windowTooSmall,
                FormulaBoundaryTest::windowTooLarge,
                FormulaBoundaryTest::windowAtItsEnds,
                FormulaBoundaryTest::clampedWindowJudges,
                FormulaBoundaryTest::feedAnswersTheNumber,
                FormulaBoundaryTest::feedTokenTooSmall,
                FormulaBoundaryTest::feedTokenTooLarge,
                FormulaBoundaryTest::feedTokenAtItsEnds,
                FormulaBoundaryTest::feedWhenComplete,
                FormulaBoundaryTest::feedWhen14AreOpen,
                FormulaBoundaryTest::feedWhen14AreComplete,
                FormulaBoundaryTest::feedForTwoReasons,
                FormulaBoundaryTest::backAnswersTheLast,
                FormulaBoundaryTest::backToNone,
                FormulaBoundaryTest::backWhenThereIsNone,
                FormulaBoundaryTest::backWhenThereAre14,
                FormulaBoundaryTest::completeWithNoToken,
                FormulaBoundaryTest::completeWithTheLeastAndTheMost,
                FormulaBoundaryTest::completeGoesAndComes,
                FormulaBoundaryTest::windowStays);
    }

    private static void newHasNoEvents() {
        Check.sentence("1: no events");
        Check.due("events()", new PastMonitor(3).events(), 0);
        Check.due("undo()", new PastMonitor(3).undo(), NONE);
        Check.due("event(0)", new PastMonitor(3).event(0), 0);
        Check.due("now()", new PastMonitor(3).now(), false);
        PastMonitor x = Make.monitor(3, Make.formula(4, 0));
        Check.due("at(0)", x.at(0), false);
        Check.due("count()", x.count(), 0);
    }

    private static void newHasNoTokens() {
        Check.sentence("1: no tokens");
        Check.due("back()", new PastMonitor(3).back(), NONE);
        Check.due("complete()", new PastMonitor(3).complete(), false);
        Check.due("feed(0)", new PastMonitor(3).feed(0), 1);
        Check.due("count()", new PastMonitor(3).count(), NONE);
        Check.due("streak()", new PastMonitor(3).streak(), NONE);
        Check.due("violation(0)", new PastMonitor(3).violation(0), NONE);
        Check.due("allowed()", new PastMonitor(3).allowed(), 0);
    }

    private static void windowTooSmall() {
        Check.sentence("1: window clamped to 0 .. 12, too small");
        Check.due("-1", new PastMonitor(-1).window(), 0);
        for (int window : FAR_BELOW) {
            Check.due("" + window, new PastMonitor(window).window(), 0);
        }
    }

    private static void windowTooLarge() {
        Check.sentence("1: window clamped to 0 .. 12, too large");
        Check.due("13", new PastMonitor(13).window(), 12);
        for (int window : FAR_ABOVE) {
            Check.due("" + window, new PastMonitor(window).window(), 12);
        }
    }

    private static void windowAtItsEnds() {
        Check.sentence("1: window clamped to 0 .. 12, inside");
        for (int window = 0; window <= 12; window++) {
            Check.due("" + window, new PastMonitor(window).window(), window);
        }
    }

    private static void clampedWindowJudges() {
        Check.sentence("1: the clamped window is the one of LATELY and STEADY");
        for (int window : FAR_ABOVE) {
            PastMonitor lately = Make.monitor(window, Make.formula(11, 0), Make.oneOf(20, 0, 3, 1));
            Check.due("LATELY of " + window, lately.count(), 13);
            PastMonitor steady = Make.monitor(window, Make.formula(12, 0), Make.oneOf(20, 1, 3, 0));
            Check.due("STEADY of " + window, steady.count(), 7);
        }
        for (int window : FAR_BELOW) {
            PastMonitor lately = Make.monitor(window, Make.formula(11, 0), Make.oneOf(20, 0, 3, 1));
            Check.due("LATELY of " + window, lately.count(), 1);
            PastMonitor steady = Make.monitor(window, Make.formula(12, 0), Make.oneOf(20, 1, 3, 0));
            Check.due("STEADY of " + window, steady.count(), 19);
        }
    }

    private static void feedAnswersTheNumber() {
        Check.sentence("2: answers the number of tokens now");
        PastMonitor x = new PastMonitor(0);
        for (int number = 1; number <= 14; number++) {
            Check.due("feed(5)", x.feed(5), number);
        }
        x.back();
        x.back();
        Check.due("after two are taken away", x.feed(5), 13);
    }

    private static void feedTokenTooSmall() {
        Check.sentence("2: NONE, changing nothing, when token is not 0 .. 12, too small");
        PastMonitor x = Make.monitor(0, Make.formula(6));
        Check.due("feed(-1)", x.feed(-1), NONE);
        for (int token : FAR_BELOW) {
            Check.due("feed(" + token + ")", x.feed(token), NONE);
        }
        Check.due("complete()", x.complete(), false);
        Check.due("back()", x.back(), 6);
        Check.due("back()", x.back(), NONE);
    }

    private static void feedTokenTooLarge() {
        Check.sentence("2: NONE, changing nothing, when token is not 0 .. 12, too large");
        PastMonitor x = Make.monitor(0, Make.formula(6));
        Check.due("feed(13)", x.feed(13), NONE);
        for (int token : FAR_ABOVE) {
            Check.due("feed(" + token + ")", x.feed(token), NONE);
        }
        Check.due("complete()", x.complete(), false);
        Check.due("back()", x.back(), 6);
        Check.due("back()", x.back(), NONE);
    }

    private static void feedTokenAtItsEnds() {
        Check.sentence("2: 0 and 12 are tokens");
        PastMonitor x = new PastMonitor(0);
        Check.due("feed(12)", x.feed(12), 1);
        Check.due("feed(0)", x.feed(0), 2);
        Check.due("back()", x.back(), 0);
        Check.due("back()", x.back(), 12);
    }

    private static void feedWhenComplete() {
        Check.sentence("2: NONE, changing nothing, when the formula is complete");
        int[][] formulas = {{2}, {4, 2}, {5, 1, 2}, {10, 8, 1, 2}};
        for (int[] formula : formulas) {
            PastMonitor x = Make.monitor(0, formula, 4, 6);
            int count = x.count();
            for (int token = 0; token <= 12; token++) {
                Check.due("feed(" + token + ")", x.feed(token), NONE);
            }
            Check.due("complete()", x.complete(), true);
            Check.due("count()", x.count(), count);
            for (int i = formula.length - 1; i >= 0; i--) {
                Check.due("back()", x.back(), formula[i]);
            }
            Check.due("back()", x.back(), NONE);
        }
    }

    private static void feedWhen14AreOpen() {
        Check.sentence("2: NONE, changing nothing, when it has 14 tokens");
        PastMonitor x = Make.monitor(0, Make.nested(4, 13, 5));
        for (int token = 0; token <= 12; token++) {
            Check.due("feed(" + token + ")", x.feed(token), NONE);
        }
        Check.due("complete()", x.complete(), false);
        Check.due("back()", x.back(), 5);
        Check.due("the 14th again", x.feed(1), 14);
        Check.due("complete()", x.complete(), true);
    }

    private static void feedWhen14AreComplete() {
        Check.sentence("2: NONE, changing nothing, when it has 14 tokens and is complete");
        PastMonitor x = Make.monitor(0, Make.nested(4, 13, 1), 0, 2);
        for (int token = 0; token <= 12; token++) {
            Check.due("feed(" + token + ")", x.feed(token), NONE);
        }
        Check.dueTruth("13 NOT", x, "10");
        Check.due("back()", x.back(), 1);
        Check.due("back()", x.back(), 4);
    }

    private static void feedForTwoReasons() {
        Check.sentence("2: NONE when token is not 0 .. 12 and there is no room either");
        int[] wrong = {-1, 13, Integer.MIN_VALUE, Integer.MAX_VALUE};
        for (int token : wrong) {
            Check.due("complete, feed(" + token + ")", Make.monitor(0, Make.formula(0)).feed(token), NONE);
            Check.due("14, feed(" + token + ")", Make.monitor(0, Make.nested(4, 13, 4)).feed(token), NONE);
        }
    }

    private static void backAnswersTheLast() {
        Check.sentence("3: takes the last token away and answers it");
        for (int token = 0; token <= 12; token++) {
            PastMonitor x = Make.monitor(0, Make.formula(6, token));
            Check.due("back()", x.back(), token);
            Check.due("the one before it", x.back(), 6);
        }
    }

    private static void backToNone() {
        Check.sentence("3: takes also the only token away");
        PastMonitor x = Make.monitor(0, Make.formula(0), 1);
        Check.due("back()", x.back(), 0);
        Check.due("complete()", x.complete(), false);
        Check.due("now()", x.now(), false);
        Check.due("feed(1)", x.feed(1), 1);
    }

    private static void backWhenThereIsNone() {
        Check.sentence("3: NONE when there is none");
        PastMonitor x = Make.monitor(2, Make.formula(), 1, 0);
        Check.due("back()", x.back(), NONE);
        Check.due("back() again", x.back(), NONE);
        Check.due("events()", x.events(), 2);
        Check.due("feed(0)", x.feed(0), 1);
        Check.dueTruth("the events", x, "10");
        x.back();
        Check.due("back() when all are gone", x.back(), NONE);
        Check.due("feed(4)", x.feed(4), 1);
    }

    private static void backWhenThereAre14() {
        Check.sentence("3: takes the last of 14 tokens away");
        PastMonitor x = Make.monitor(0, Make.nested(7, 13, 3));
        Check.due("back()", x.back(), 3);
        for (int i = 0; i < 13; i++) {
            Check.due("back()", x.back(), 7);
        }
        Check.due("back()", x.back(), NONE);
    }

    private static void completeWithNoToken() {
        Check.sentence("4: complete, with no token");
        PastMonitor x = new PastMonitor(0);
        Check.due("new", x.complete(), false);
        x.event(1);
        Check.due("with an event", x.complete(), false);
        x.feed(1);
        x.back();
        Check.due("after back", x.complete(), false);
    }

    private static void completeWithTheLeastAndTheMost() {
        Check.sentence("4: complete, with 1 token and with 14");
        Check.due("1 fact", Make.monitor(0, Make.formula(3)).complete(), true);
        Check.due("1 operator", Make.monitor(0, Make.formula(4)).complete(), false);
        Check.due("13 NOT", Make.monitor(0, Make.nested(4, 12, 4)).complete(), false);
        Check.due("13 NOT and a fact", Make.monitor(0, Make.nested(4, 13, 3)).complete(), true);
        Check.due("14 NOT", Make.monitor(0, Make.nested(4, 13, 4)).complete(), false);
        Check.due("6 AND and 7 facts",
                Make.monitor(0, Make.formula(5, 5, 5, 5, 5, 5, 0, 1, 2, 3, 0, 1, 2)).complete(), true);
        Check.due("7 AND and 7 facts",
                Make.monitor(0, Make.formula(5, 5, 5, 5, 5, 5, 5, 0, 1, 2, 3, 0, 1, 2)).complete(), false);
        Check.due("14 AND", Make.monitor(0, Make.nested(5, 13, 5)).complete(), false);
    }

    private static void completeGoesAndComes() {
        Check.sentence("4: complete, after back and feed");
        PastMonitor x = Make.monitor(0, Make.formula(10, 0, 1));
        Check.due("whole", x.complete(), true);
        x.back();
        Check.due("one taken away", x.complete(), false);
        x.feed(4);
        Check.due("an operator instead", x.complete(), false);
        x.feed(2);
        Check.due("whole again", x.complete(), true);
    }

    private static void windowStays() {
        Check.sentence("5: the window, at its ends and after every other call");
        for (int window : new int[] {0, 1, 11, 12}) {
            PastMonitor x = Make.monitor(window, Make.formula(11, 0), 1, 0);
            x.undo();
            x.back();
            x.feed(12);
            x.feed(3);
            x.allowed();
            x.wouldHold(8);
            x.count();
            x.restart();
            Check.due("window()", x.window(), window);
        }
    }
}
