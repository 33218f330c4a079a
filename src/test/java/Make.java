/** Makes the objects that the tests ask. */
final class Make {
    static final int MOST_EVENTS = 200;
    static final int MOST_TOKENS = 14;

    private Make() {
    }

    static int[] formula(int... tokens) {
        return tokens;
    }

    static PastMonitor monitor(int window, int[] formula, int... events) {
        PastMonitor x = new PastMonitor(window);
        feedAll(x, formula);
        for (int facts : events) {
            x.event(facts);
        }
        return x;
    }

    static void feedAll(PastMonitor x, int... formula) {
        for (int token : formula) {
            x.feed(token);
        }
    }

    /** 200 events, the sets 0 .. 15 over and over; the last one, number 199, is the set 7. */
    static PastMonitor full(int... formula) {
        PastMonitor x = monitor(0, formula);
        for (int i = 0; i < MOST_EVENTS; i++) {
            Check.due("full: event " + i, x.event(i % 16), i);
        }
        return x;
    }

    /** Events 0 .. count - 1, all of the set others but the one numbered special. */
    static int[] oneOf(int count, int others, int special, int facts) {
        int[] events = new int[count];
        for (int t = 0; t < count; t++) {
            events[t] = t == special ? facts : others;
        }
        return events;
    }

    /** The same operator as often as is told, and then a fact. */
    static int[] nested(int operator, int times, int fact) {
        int[] tokens = new int[times + 1];
        for (int i = 0; i < times; i++) {
            tokens[i] = operator;
        }
        tokens[times] = fact;
        return tokens;
    }
}
