/**
 * Compares long runs of calls with a model that reads the document's table
 * word for word, looking at all the events that it names each time. The calls
 * come from a fixed row of numbers, so that each run is the same.
 */
public final class ModelTest {
    private static final int RUNS = 1500;
    /** An object is promised 512 calls; one step makes at most 14 of them. */
    private static final int LAST_STEP = 512 - 14;

    private long row = 20261115L;

    private PastMonitor real;
    private int window;
    private final int[] tokens = new int[14];
    private int tokenCount;
    private final int[] facts = new int[201];
    private int eventCount;
    private int run;
    private int calls;

    /** -1: not asked yet, 0: false, 1: true; for each token and event. */
    private final int[][] known = new int[14][201];

    public static void main(String[] args) {
        ModelTest test = new ModelTest();
        for (int i = 0; i < RUNS; i++) {
            test.runOnce(i);
        }
        test.smallFormulas();
        Check.end();
    }

    private int next(int bound) {
        row = row * 6364136223846793005L + 1442695040888963407L;
        return (int) ((row >>> 33) % bound);
    }

    private void start(int given) {
        real = new PastMonitor(given);
        window = given < 0 ? 0 : Math.min(given, 12);
        tokenCount = 0;
        eventCount = 0;
        calls = 0;
    }

    private void runOnce(int number) {
        run = number;
        start(next(17) - 2);
        // Some runs mostly take events, so that they come to 200.
        boolean eager = number % 3 == 0;
        while (calls <= LAST_STEP) {
            if (eager && next(3) != 0) {
                event(next(16));
            } else {
                anyCall();
            }
        }
    }

    private void anyCall() {
        switch (next(24)) {
            case 0, 1, 2, 3, 4 -> feed(next(16) == 0 ? next(40) - 20 : next(13));
            case 5 -> back();
            case 6, 7, 8, 9, 10 -> event(next(12) == 0 ? next(60) - 30 : next(16));
            case 11 -> undo();
            case 12 -> rarely();
            case 13 -> due("now()", real.now() ? 1 : 0, at(eventCount - 1) ? 1 : 0);
            case 14, 15 -> askAt(next(eventCount + 5) - 2);
            case 16 -> due("count()", real.count(), count());
            case 17, 18 -> askViolation(next(eventCount + 5) - 2);
            case 19 -> due("streak()", real.streak(), streak());
            case 20 -> askWouldHold(next(20) - 2);
            case 21 -> due("allowed()", real.allowed(), allowed());
            case 22 -> due("complete()", real.complete() ? 1 : 0, complete() ? 1 : 0);
            default -> {
                due("events()", real.events(), eventCount);
                due("window()", real.window(), window);
            }
        }
    }

    private void rarely() {
        if (next(8) == 0) {
            real.restart();
            calls++;
            eventCount = 0;
        } else {
            int left = next(tokenCount + 1);
            while (tokenCount > left) {
                back();
            }
        }
    }

    private void due(String call, int got, int want) {
        calls++;
        Check.due("run " + run + ": " + call, got, want);
    }

    private void feed(int token) {
        int want = -1;
        if (token >= 0 && token <= 12 && !complete() && tokenCount < 14) {
            tokens[tokenCount++] = token;
            want = tokenCount;
        }
        due("feed(" + token + ")", real.feed(token), want);
    }

    private void back() {
        int want = tokenCount == 0 ? -1 : tokens[--tokenCount];
        due("back()", real.back(), want);
    }

    private void event(int set) {
        int want;
        if (set < 0 || set > 15) {
            want = -1;
        } else if (eventCount == 200) {
            want = -2;
        } else {
            facts[eventCount] = set;
            want = eventCount++;
        }
        due("event(" + set + ")", real.event(set), want);
    }

    private void undo() {
        int want = eventCount == 0 ? -1 : --eventCount;
        due("undo()", real.undo(), want);
    }

    private void askAt(int t) {
        due("at(" + t + ")", real.at(t) ? 1 : 0, at(t) ? 1 : 0);
    }

    private void askViolation(int t) {
        due("violation(" + t + ")", real.violation(t), violation(t));
    }

    private void askWouldHold(int set) {
        due("wouldHold(" + set + ")", real.wouldHold(set) ? 1 : 0, wouldHold(set) ? 1 : 0);
    }

    /** Where the formula that begins at the place ends, or -1 when it does not. */
    private int end(int place) {
        if (place < 0 || place >= tokenCount) {
            return -1;
        }
        int token = tokens[place];
        if (token < 4) {
            return place + 1;
        }
        int first = end(place + 1);
        boolean two = token == 5 || token == 6 || token == 10;
        return two ? end(first) : first;
    }

    private boolean complete() {
        return end(0) == tokenCount && tokenCount > 0;
    }

    private void forget() {
        for (int[] line : known) {
            java.util.Arrays.fill(line, -1);
        }
    }

    private boolean truth(int place, int t) {
        if (known[place][t] < 0) {
            known[place][t] = find(place, t) ? 1 : 0;
        }
        return known[place][t] == 1;
    }

    private boolean find(int place, int t) {
        int g = place + 1;
        switch (tokens[place]) {
            case 4:
                return !truth(g, t);
            case 5:
                return truth(g, t) && truth(end(g), t);
            case 6:
                return truth(g, t) || truth(end(g), t);
            case 7:
                return t > 0 && truth(g, t - 1);
            case 8:
                return some(g, 0, t);
            case 9:
                return all(g, 0, t);
            case 10:
                for (int s = 0; s <= t; s++) {
                    if (truth(end(g), s) && all(g, s + 1, t)) {
                        return true;
                    }
                }
                return false;
            case 11:
                return some(g, Math.max(0, t - window), t);
            case 12:
                return all(g, Math.max(0, t - window), t);
            default:
                return (facts[t] & (1 << tokens[place])) != 0;
        }
    }

    private boolean some(int place, int from, int to) {
        for (int s = from; s <= to; s++) {
            if (truth(place, s)) {
                return true;
            }
        }
        return false;
    }

    private boolean all(int place, int from, int to) {
        for (int s = from; s <= to; s++) {
            if (!truth(place, s)) {
                return false;
            }
        }
        return true;
    }

    private boolean at(int t) {
        forget();
        return complete() && t >= 0 && t < eventCount && truth(0, t);
    }

    private int count() {
        if (!complete()) {
            return -1;
        }
        forget();
        int sum = 0;
        for (int t = 0; t < eventCount; t++) {
            sum += truth(0, t) ? 1 : 0;
        }
        return sum;
    }

    private int violation(int t) {
        if (!complete() || t < 0) {
            return -1;
        }
        forget();
        for (int s = t; s < eventCount; s++) {
            if (!truth(0, s)) {
                return s;
            }
        }
        return -1;
    }

    private int streak() {
        if (!complete()) {
            return -1;
        }
        forget();
        int t = eventCount;
        while (t > 0 && truth(0, t - 1)) {
            t--;
        }
        return eventCount - t;
    }

    private boolean wouldHold(int set) {
        if (!complete() || set < 0 || set > 15) {
            return false;
        }
        forget();
        facts[eventCount] = set;
        return truth(0, eventCount);
    }

    private int allowed() {
        int sum = 0;
        for (int set = 0; set < 16; set++) {
            sum += wouldHold(set) ? 1 : 0;
        }
        return sum;
    }

    /** Every formula of at most four tokens over facts 0 and 1, over one fixed row of events. */
    private void smallFormulas() {
        run = RUNS;
        int[] kinds = {0, 1, 4, 5, 6, 7, 8, 9, 10, 11, 12};
        for (int code = 0; code < 11 * 11 * 11 * 11; code++) {
            start(code % 4);
            int rest = code;
            for (int i = 0; i < 4; i++) {
                feed(kinds[rest % 11]);
                rest /= 11;
            }
            if (complete()) {
                askOverRow();
            }
        }
    }

    private void askOverRow() {
        for (int i = 0; i < 12; i++) {
            event(next(4));
        }
        for (int t = -1; t <= 12; t++) {
            askAt(t);
            askViolation(t);
        }
        due("count()", real.count(), count());
        due("streak()", real.streak(), streak());
        due("allowed()", real.allowed(), allowed());
    }
}
