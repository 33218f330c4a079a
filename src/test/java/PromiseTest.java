/** One method for each promise of the document, with its edges and wrong inputs. */
public final class PromiseTest {
    private static final int NONE = PastMonitor.NONE;
    private static final int FULL = PastMonitor.FULL;
    private static final int[] WRONG_NUMBERS = {-1, -2, -16, Integer.MIN_VALUE, Integer.MAX_VALUE};

    public static void main(String[] args) {
        newObject();
        feed();
        back();
        complete();
        window();
        event();
        undo();
        restart();
        events();
        now();
        at();
        count();
        violation();
        streak();
        wouldHold();
        allowed();
        orderAndLimits();
        tokens();
        changedFormula();
        Check.end();
    }

    private static void newObject() {
        PastMonitor x = new PastMonitor(3);
        Check.due("1: events()", x.events(), 0);
        Check.due("1: back()", x.back(), NONE);
        Check.due("1: complete()", x.complete(), false);
        Check.due("1: undo()", x.undo(), NONE);
        Check.due("1: first feed", x.feed(4), 1);
        Check.due("1: first event", x.event(0), 0);
        PastMonitor other = new PastMonitor(5);
        Check.due("1: another object has no tokens", other.back(), NONE);
        Check.due("1: another object has no events", other.events(), 0);
        Check.due("1: another object's window", other.window(), 5);
        Check.due("1: the first one's window", x.window(), 3);
    }

    private static void feed() {
        for (int token = 0; token <= 12; token++) {
            PastMonitor x = new PastMonitor(1);
            Check.due("2: feed(" + token + ")", x.feed(token), 1);
            Check.due("2: fed " + token, x.back(), token);
        }
        PastMonitor x = Make.monitor(1, Make.formula(5));
        Check.due("2: feed(13)", x.feed(13), NONE);
        for (int token : WRONG_NUMBERS) {
            Check.due("2: feed(" + token + ")", x.feed(token), NONE);
        }
        Check.due("2: wrong tokens change nothing", x.feed(1), 2);
        Check.due("2: the formula ends", x.feed(3), 3);
        Check.due("2: complete, a fact", x.feed(0), NONE);
        Check.due("2: complete, an operator", x.feed(4), NONE);
        Check.due("2: complete stays so", x.complete(), true);
        Check.due("2: the last token stays", x.back(), 3);

        PastMonitor y = new PastMonitor(1);
        for (int i = 1; i <= 14; i++) {
            Check.due("2: NOT number " + i, y.feed(4), i);
        }
        Check.due("2: the 15th, a fact", y.feed(2), NONE);
        Check.due("2: the 15th, an operator", y.feed(4), NONE);
        Check.due("2: 14 open tokens are not complete", y.complete(), false);
        Check.due("2: the 14th stays", y.back(), 4);
        Check.due("2: a fact as the 14th", y.feed(2), 14);
        Check.due("2: complete with 14", y.complete(), true);
        Check.due("2: complete with 14 takes no more", y.feed(2), NONE);
    }

    private static void back() {
        PastMonitor x = Make.monitor(1, Make.formula(10, 12, 3, 0));
        int[] want = {0, 3, 12, 10, NONE, NONE};
        for (int token : want) {
            Check.due("3: back()", x.back(), token);
        }
        Check.due("3: feed after all are gone", x.feed(2), 1);
        Check.due("3: complete again", x.complete(), true);
        PastMonitor y = Make.monitor(1, Make.formula(4, 1), 2, 0);
        y.back();
        Check.due("3: events stay", y.events(), 2);
    }

    private static void complete() {
        dueComplete("each fact", Make.formula(0), Make.formula(1), Make.formula(2), Make.formula(3));
        dueComplete("one operand", Make.formula(4, 0), Make.formula(7, 1), Make.formula(8, 2), Make.formula(9, 3),
                Make.formula(11, 0), Make.formula(12, 1), Make.formula(4, 7, 8, 9, 11, 12, 2));
        dueComplete("two operands", Make.formula(5, 0, 1), Make.formula(6, 2, 3), Make.formula(10, 0, 0),
                Make.formula(5, 6, 0, 1, 10, 2, 3), Make.formula(10, 4, 0, 5, 1, 2),
                Make.formula(6, 6, 6, 6, 6, 6, 4, 0, 1, 2, 3, 0, 1, 2));
        Check.due("4: no token", new PastMonitor(0).complete(), false);
    }

    private static void dueComplete(String name, int[]... formulas) {
        for (int[] tokens : formulas) {
            PastMonitor x = new PastMonitor(0);
            for (int i = 0; i < tokens.length; i++) {
                Check.due("4: " + name + ", after " + i + " tokens", x.complete(), false);
                Check.due("4: " + name + ", feed", x.feed(tokens[i]), i + 1);
            }
            Check.due("4: " + name + ", the whole", x.complete(), true);
            x.back();
            Check.due("4: " + name + ", without the last", x.complete(), false);
        }
    }

    private static void window() {
        for (int window = 0; window <= 12; window++) {
            Check.due("5: window()", new PastMonitor(window).window(), window);
        }
        Check.due("5: 13", new PastMonitor(13).window(), 12);
        Check.due("5: greatest", new PastMonitor(Integer.MAX_VALUE).window(), 12);
        Check.due("5: -1", new PastMonitor(-1).window(), 0);
        Check.due("5: least", new PastMonitor(Integer.MIN_VALUE).window(), 0);
        // The clamped window is also the one that the formula is judged with.
        PastMonitor wide = Make.monitor(99, Make.formula(11, 0), 1, 0, 0, 0, 0, 0, 0, 0, 0, 0, 0, 0, 0, 0);
        Check.dueTruth("5: clamped to 12", wide, "11111111111110");
        Check.dueTruth("5: clamped to 0", Make.monitor(-5, Make.formula(11, 0), 1, 0, 1), "101");
        PastMonitor x = Make.monitor(7, Make.formula(4, 0), 1, 2);
        x.restart();
        x.back();
        Check.due("5: stays", x.window(), 7);
    }

    private static void event() {
        PastMonitor x = new PastMonitor(0);
        for (int facts = 0; facts < 16; facts++) {
            Check.due("6: event(" + facts + ")", x.event(facts), facts);
        }
        for (int fact = 0; fact < 4; fact++) {
            x.feed(fact);
            for (int t = 0; t < 16; t++) {
                Check.due("6: fact " + fact + " at(" + t + ")", x.at(t), ((t >> fact) & 1) == 1);
            }
            x.back();
        }
        Check.due("6: event(16)", x.event(16), NONE);
        for (int facts : WRONG_NUMBERS) {
            Check.due("6: event(" + facts + ")", x.event(facts), NONE);
        }
        Check.due("6: wrong ones change nothing", x.events(), 16);
        Check.due("6: the next", x.event(3), 16);

        PastMonitor y = Make.full(0);
        Check.due("6: the 201st", y.event(1), FULL);
        Check.due("6: nor 0", y.event(0), FULL);
        Check.due("6: 200 stay", y.events(), 200);
        Check.due("6: the last stays", y.at(199), true);
        y.undo();
        Check.due("6: room again", y.event(0), 199);
        Check.due("6: the new last", y.at(199), false);
        Check.due("6: full again", y.event(0), FULL);
    }

    private static void undo() {
        PastMonitor x = Make.monitor(0, Make.formula(8, 0), 0, 1, 0);
        Check.due("7: true", x.now(), true);
        Check.due("7: undo()", x.undo(), 2);
        Check.due("7: still true", x.now(), true);
        Check.due("7: undo()", x.undo(), 1);
        Check.due("7: what ONCE saw is gone", x.now(), false);
        Check.due("7: undo()", x.undo(), 0);
        Check.due("7: none left", x.undo(), NONE);
        Check.due("7: again", x.undo(), NONE);
        Check.due("7: the number is free", x.event(2), 0);
        Check.due("7: the formula stays", x.back(), 0);
    }

    private static void restart() {
        PastMonitor x = Make.monitor(4, Make.formula(9, 0), 1, 0, 1);
        x.restart();
        Check.due("8: events()", x.events(), 0);
        Check.due("8: complete()", x.complete(), true);
        Check.due("8: window()", x.window(), 4);
        Check.due("8: undo()", x.undo(), NONE);
        Check.due("8: count()", x.count(), 0);
        Check.due("8: event", x.event(1), 0);
        Check.due("8: the old failure is forgotten", x.now(), true);
        Check.due("8: the formula stays", x.back(), 0);
        Check.due("8: the formula stays", x.back(), 9);
        PastMonitor y = Make.full(0);
        y.restart();
        Check.due("8: room again", y.event(0), 0);
        y.restart();
        y.restart();
        Check.due("8: twice", y.events(), 0);
    }

    private static void events() {
        PastMonitor x = new PastMonitor(0);
        for (int i = 0; i < 5; i++) {
            Check.due("9: events()", x.events(), i);
            x.event(i);
        }
        x.event(16);
        Check.due("9: a refused one does not count", x.events(), 5);
        x.undo();
        Check.due("9: after undo", x.events(), 4);
        x.wouldHold(3);
        x.allowed();
        x.feed(1);
        x.wouldHold(3);
        x.allowed();
        Check.due("9: a tried one does not count", x.events(), 4);
        Check.due("9: full", Make.full(0).events(), 200);
    }

    private static void now() {
        PastMonitor x = Make.monitor(0, Make.formula(4, 1));
        Check.due("10: no event", x.now(), false);
        x.event(0);
        Check.due("10: true", x.now(), true);
        x.event(2);
        Check.due("10: false", x.now(), false);
        x.event(13);
        Check.due("10: true again", x.now(), true);
        x.back();
        Check.due("10: not complete", x.now(), false);
        x.back();
        Check.due("10: no token", x.now(), false);
        Check.due("10: full, fact 0", Make.full(0).now(), true);
        Check.due("10: full, fact 3", Make.full(3).now(), false);
    }

    private static void at() {
        PastMonitor x = Make.monitor(0, Make.formula(4, 0), 0, 1, 0);
        Check.dueTruth("11", x, "101");
        Check.due("11: at(3)", x.at(3), false);
        Check.due("11: at(200)", x.at(200), false);
        for (int t : WRONG_NUMBERS) {
            Check.due("11: at(" + t + ")", x.at(t), false);
        }
        x.undo();
        Check.due("11: undone", x.at(2), false);
        x.back();
        Check.due("11: not complete", x.at(0), false);
        Check.due("11: no event", Make.monitor(0, Make.formula(4, 0)).at(0), false);
        PastMonitor y = Make.full(4, 0);
        Check.due("11: full, at(198)", y.at(198), true);
        Check.due("11: full, at(199)", y.at(199), false);
        Check.due("11: full, at(200)", y.at(200), false);
    }

    private static void count() {
        PastMonitor x = new PastMonitor(0);
        Check.due("12: no token", x.count(), NONE);
        x.feed(5);
        x.feed(0);
        Check.due("12: not complete", x.count(), NONE);
        x.feed(1);
        Check.due("12: no event", x.count(), 0);
        int[] events = {1, 2, 3, 7, 4, 15, 0};
        int[] want = {0, 0, 1, 2, 2, 3, 3};
        for (int i = 0; i < events.length; i++) {
            x.event(events[i]);
            Check.due("12: count()", x.count(), want[i]);
        }
        x.back();
        Check.due("12: not complete again", x.count(), NONE);
        Check.due("12: full", Make.full(2).count(), 100);
        Check.due("12: all 200", Make.full(6, 0, 4, 0).count(), 200);
    }

    private static void violation() {
        PastMonitor x = new PastMonitor(0);
        Check.due("13: no token", x.violation(0), NONE);
        x.feed(4);
        x.event(1);
        Check.due("13: not complete", x.violation(0), NONE);
        x.feed(0);
        x.event(0);
        x.event(2);
        x.event(3);
        x.event(0);
        int[] want = {0, 3, 3, 3, NONE, NONE, NONE};
        for (int t = 0; t < want.length; t++) {
            Check.due("13: violation(" + t + ")", x.violation(t), want[t]);
        }
        for (int t : WRONG_NUMBERS) {
            Check.due("13: violation(" + t + ")", x.violation(t), NONE);
        }
        Check.due("13: violation(200)", x.violation(200), NONE);
        x.restart();
        Check.due("13: no event", x.violation(0), NONE);
        PastMonitor y = Make.full(4, 0);
        Check.due("13: full, from 199", y.violation(199), 199);
        Check.due("13: full, from 200", y.violation(200), NONE);
        Check.due("13: no token, with an event", Make.monitor(0, Make.formula(), 0).violation(0), NONE);
        Check.due("13: AND without its second", Make.monitor(0, Make.formula(5, 0), 0).violation(0), NONE);
        Check.due("13: BEFORE without its operand", Make.monitor(0, Make.formula(7), 0).violation(0), NONE);
        Check.due("13: never false", Make.full(6, 0, 4, 0).violation(0), NONE);
    }

    private static void streak() {
        PastMonitor x = new PastMonitor(0);
        Check.due("14: no token", x.streak(), NONE);
        x.feed(4);
        Check.due("14: not complete", x.streak(), NONE);
        x.feed(3);
        Check.due("14: no event", x.streak(), 0);
        int[] events = {0, 1, 8, 9, 2, 4, 7, 15, 0};
        int[] want = {1, 2, 0, 0, 1, 2, 3, 0, 1};
        for (int i = 0; i < events.length; i++) {
            x.event(events[i]);
            Check.due("14: streak() after " + i, x.streak(), want[i]);
        }
        x.back();
        Check.due("14: not complete again", x.streak(), NONE);
        Check.due("14: all 200", Make.full(6, 0, 4, 0).streak(), 200);
    }

    private static void wouldHold() {
        PastMonitor x = new PastMonitor(1);
        Check.due("15: no token", x.wouldHold(1), false);
        x.feed(4);
        Check.due("15: not complete", x.wouldHold(0), false);
        x.feed(7);
        x.feed(0);
        Check.due("15: at event 0", x.wouldHold(1), true);
        x.event(1);
        Check.due("15: after the fact", x.wouldHold(0), false);
        Check.due("15: nothing changed", x.events(), 1);
        Check.due("15: nothing changed", x.wouldHold(0), false);
        Check.due("15: the truth stays", x.now(), true);
        Check.due("15: wouldHold(16)", Make.monitor(0, Make.formula(4, 0)).wouldHold(16), false);
        for (int facts : WRONG_NUMBERS) {
            Check.due("15: wouldHold(" + facts + ")", Make.monitor(0, Make.formula(4, 0)).wouldHold(facts), false);
            Check.due("15: wouldHold(" + facts + ")", Make.monitor(0, Make.formula(3)).wouldHold(facts), false);
            PastMonitor always = Make.monitor(0, Make.formula(6, 0, 4, 0));
            Check.due("15: wouldHold(" + facts + ")", always.wouldHold(facts), false);
        }
        for (int facts = 0; facts < 16; facts++) {
            boolean due = (facts & 6) == 6;
            Check.due("15: AND 1 2 of " + facts, Make.monitor(0, Make.formula(5, 1, 2), 0).wouldHold(facts), due);
        }
        PastMonitor y = Make.full(8, 5, 0, 7, 0);
        Check.due("15: full", y.wouldHold(1), true);
        PastMonitor z = Make.full(5, 0, 7, 3);
        Check.due("15: full, the 201st", z.wouldHold(1), false);
        PastMonitor w = Make.full(5, 3, 7, 0);
        Check.due("15: full, the 201st with 3", w.wouldHold(8), true);
        Check.due("15: full, the 201st without 3", w.wouldHold(7), false);
        Check.due("15: full, nothing changed", w.events(), 200);
        Check.due("15: full, the last stays", w.at(199), false);
        Check.due("15: full, no more at", w.at(200), false);
    }

    private static void allowed() {
        PastMonitor x = new PastMonitor(2);
        Check.due("16: no token", x.allowed(), 0);
        x.feed(6);
        x.feed(0);
        Check.due("16: not complete", x.allowed(), 0);
        x.feed(1);
        Check.due("16: OR of two facts", x.allowed(), 12);
        Check.due("16: AND", Make.monitor(0, Make.formula(5, 0, 1)).allowed(), 4);
        Check.due("16: three facts", Make.monitor(0, Make.formula(5, 0, 5, 1, 2)).allowed(), 2);
        Check.due("16: four facts", Make.monitor(0, Make.formula(5, 0, 5, 1, 5, 2, 3)).allowed(), 1);
        Check.due("16: none", Make.monitor(0, Make.formula(5, 0, 4, 0)).allowed(), 0);
        Check.due("16: all", Make.monitor(0, Make.formula(6, 0, 4, 0)).allowed(), 16);
        PastMonitor y = Make.monitor(1, Make.formula(11, 2), 4);
        Check.due("16: the window still holds it", y.allowed(), 16);
        Check.due("16: nothing changed", y.events(), 1);
        y.event(0);
        Check.due("16: it has left the window", y.allowed(), 8);
        Check.due("16: asked twice", y.allowed(), 8);
        Check.due("16: broken for good", Make.monitor(1, Make.formula(9, 2), 4, 0).allowed(), 0);
        Check.due("16: full", Make.full(10, 3, 0).allowed(), 12);
        Check.due("16: full, the last has no fact 3", Make.full(7, 3).allowed(), 0);
    }

    private static void orderAndLimits() {
        PastMonitor x = Make.full(4, 0);
        Check.due("17: NONE before FULL, 16", x.event(16), NONE);
        for (int facts : WRONG_NUMBERS) {
            Check.due("17: NONE before FULL, " + facts, x.event(facts), NONE);
        }
        Check.due("17: FULL", x.event(15), FULL);
        x.feed(0);
        x.feed(99);
        x.at(200);
        x.violation(-1);
        x.wouldHold(16);
        Check.due("17: events() after refusals", x.events(), 200);
        Check.due("17: count() after refusals", x.count(), 100);
        Check.due("17: last token after refusals", x.back(), 0);
        x.count();
        x.streak();
        x.violation(0);
        x.now();
        x.allowed();
        Check.due("17: token after refusals without a formula", x.back(), 4);
        Check.due("17: back on none", x.back(), NONE);
        Check.due("17: events() after back on none", x.events(), 200);
        Check.due("17: feed after refusals", x.feed(0), 1);
        Check.due("17: count() of the new formula", x.count(), 100);
        // 512 calls on one object, the greatest run that is promised.
        PastMonitor y = new PastMonitor(12);
        y.feed(11);
        y.feed(0);
        for (int i = 0; i < 254; i++) {
            Check.due("17: event in a long run", y.event(i % 16), 0);
            Check.due("17: undo in a long run", y.undo(), 0);
        }
        Check.due("17: call 511", y.event(1), 0);
        Check.due("17: call 512", y.now(), true);
    }

    /** Each token of the document's table, by hand. */
    private static void tokens() {
        int[] g = {0, 1, 0, 0, 1, 1, 0};
        Check.dueTruth("FACT 0", Make.monitor(2, Make.formula(0), g), "0100110");
        Check.dueTruth("NOT", Make.monitor(2, Make.formula(4, 0), g), "1011001");
        int[] both = {0, 1, 2, 3};
        Check.dueTruth("AND", Make.monitor(2, Make.formula(5, 0, 1), both), "0001");
        Check.dueTruth("OR", Make.monitor(2, Make.formula(6, 0, 1), both), "0111");
        Check.dueTruth("BEFORE", Make.monitor(2, Make.formula(7, 0), g), "0010011");
        Check.dueTruth("BEFORE at 0", Make.monitor(2, Make.formula(7, 0), 1), "0");
        Check.dueTruth("BEFORE NOT at 0", Make.monitor(2, Make.formula(7, 4, 0), 0, 0), "01");
        Check.dueTruth("NOT BEFORE at 0", Make.monitor(2, Make.formula(4, 7, 0), 1, 1), "10");
        Check.dueTruth("ONCE", Make.monitor(2, Make.formula(8, 0), g), "0111111");
        Check.dueTruth("ALWAYS", Make.monitor(2, Make.formula(9, 0), 1, 1, 0, 1), "1100");
        Check.dueTruth("ALWAYS, false at 0", Make.monitor(2, Make.formula(9, 0), 0, 1), "00");
        // SINCE g h with g fact 0 and h fact 1: h needs no g at its own event.
        Check.dueTruth("SINCE", Make.monitor(2, Make.formula(10, 0, 1), 1, 2, 1, 1, 0, 1, 3, 1, 2, 0), "0111001110");
        Check.dueTruth("SINCE, h at 0", Make.monitor(2, Make.formula(10, 0, 1), 2, 1, 0), "110");
        Check.dueTruth("LATELY 0", Make.monitor(0, Make.formula(11, 0), g), "0100110");
        Check.dueTruth("LATELY 1", Make.monitor(1, Make.formula(11, 0), g), "0110111");
        Check.dueTruth("LATELY 2", Make.monitor(2, Make.formula(11, 0), 1, 0, 0, 0, 1), "11101");
        Check.dueTruth("STEADY 0", Make.monitor(0, Make.formula(12, 0), g), "0100110");
        Check.dueTruth("STEADY 1", Make.monitor(1, Make.formula(12, 0), g), "0000010");
        Check.dueTruth("STEADY 2, from the first on", Make.monitor(2, Make.formula(12, 0), 1, 1, 0, 1, 1, 1), "110001");
        int[] order = Make.formula(10, 4, 0, 5, 1, 7, 2);
        Check.dueTruth("order of operands", Make.monitor(2, order, 6, 2, 0, 1, 0), "01100");
        Check.dueTruth("nested windows", Make.monitor(1, Make.formula(11, 11, 0), 1, 0, 0, 0), "1110");
    }

    private static void changedFormula() {
        PastMonitor x = Make.monitor(1, Make.formula(8, 0), 1, 2, 0);
        Check.dueTruth("ONCE 0", x, "111");
        x.back();
        x.feed(1);
        Check.dueTruth("ONCE 1", x, "011");
        x.back();
        x.back();
        x.feed(12);
        x.feed(4);
        x.feed(0);
        Check.dueTruth("STEADY NOT 0", x, "001");
        x.back();
        x.back();
        x.back();
        x.feed(9);
        x.feed(0);
        Check.dueTruth("ALWAYS 0", x, "100");
        Check.due("the events stay", x.events(), 3);
    }
}
