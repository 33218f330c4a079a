/** Watches a row of events by a formula about the past. */
public final class PastMonitor {
    public static final int NONE = -1;
    public static final int FULL = -2;

    private static final int MAX_WINDOW = 12;
    private static final int MAX_TOKENS = 14;
    private static final int MAX_EVENTS = 200;
    private static final int FACT_SETS = 16;

    private static final int NOT = 4;
    private static final int AND = 5;
    private static final int OR = 6;
    private static final int BEFORE = 7;
    private static final int ONCE = 8;
    private static final int ALWAYS = 9;
    private static final int SINCE = 10;
    private static final int LATELY = 11;
    private static final int STEADY = 12;

    private final int window;
    private final int[] tokens = new int[MAX_TOKENS];
    private int tokenCount = 0;
    private final int[] taken = new int[MAX_EVENTS];
    private int eventCount = 0;

    // Scratch of one judging: filled anew for each question, so it never has
    // to be mended when the formula or the events change.
    private final boolean[] holds = new boolean[MAX_EVENTS];
    private final int[] memory = new int[MAX_TOKENS];

    public PastMonitor(int window) {
        this.window = window < 0 ? 0 : window > MAX_WINDOW ? MAX_WINDOW : window;
    }

    public int feed(int token) {
        if (token < 0 || token > STEADY || tokenCount >= MAX_TOKENS || complete()) {
            return NONE;
        }
        tokens[tokenCount] = token;
        tokenCount++;
        return tokenCount;
    }

    public int back() {
        if (tokenCount == 0) {
            return NONE;
        }
        tokenCount--;
        return tokens[tokenCount];
    }

    public boolean complete() {
        int missing = 1;
        for (int i = 0; i < tokenCount; i++) {
            missing += operands(tokens[i]) - 1;
        }
        // feed stops at the first whole formula, so no tokens can stand after it.
        return missing == 0;
    }

    public int window() {
        return window;
    }

    public int event(int facts) {
        if (!isFactSet(facts)) {
            return NONE;
        }
        if (eventCount >= MAX_EVENTS) {
            return FULL;
        }
        taken[eventCount] = facts;
        eventCount++;
        return eventCount - 1;
    }

    public int undo() {
        if (eventCount == 0) {
            return NONE;
        }
        eventCount--;
        return eventCount;
    }

    public void restart() {
        eventCount = 0;
    }

    public int events() {
        return eventCount;
    }

    public boolean now() {
        return at(eventCount - 1);
    }

    public boolean at(int t) {
        if (t < 0 || t >= eventCount || !complete()) {
            return false;
        }
        judgeAll();
        return holds[t];
    }

    public int count() {
        if (!complete()) {
            return NONE;
        }
        judgeAll();
        int sum = 0;
        for (int t = 0; t < eventCount; t++) {
            if (holds[t]) {
                sum++;
            }
        }
        return sum;
    }

    public int violation(int t) {
        if (t < 0 || !complete()) {
            return NONE;
        }
        judgeAll();
        for (int s = t; s < eventCount; s++) {
            if (!holds[s]) {
                return s;
            }
        }
        return NONE;
    }

    public int streak() {
        if (!complete()) {
            return NONE;
        }
        judgeAll();
        int length = 0;
        for (int t = eventCount - 1; t >= 0 && holds[t]; t--) {
            length++;
        }
        return length;
    }

    public boolean wouldHold(int facts) {
        if (!isFactSet(facts) || !complete()) {
            return false;
        }
        judgeAll();
        return judgeNext(facts);
    }

    public int allowed() {
        int sum = 0;
        for (int facts = 0; facts < FACT_SETS; facts++) {
            if (wouldHold(facts)) {
                sum++;
            }
        }
        return sum;
    }

    private static boolean isFactSet(int facts) {
        return facts >= 0 && facts < FACT_SETS;
    }

    private static int operands(int token) {
        if (token < NOT) {
            return 0;
        }
        return token == AND || token == OR || token == SINCE ? 2 : 1;
    }

    /** Fills holds for all events and leaves in memory what the last one left behind. */
    private void judgeAll() {
        for (int i = 0; i < MAX_TOKENS; i++) {
            memory[i] = 0;
        }
        for (int t = 0; t < eventCount; t++) {
            holds[t] = judgeNext(taken[t]);
        }
    }

    /**
     * Judges a complete formula at the event that follows those judged so far.
     * Operands stand behind their operator, so the tokens are read from the
     * last to the first, and the values that wait for an operator are kept as
     * the bits of one number, the newest lowest: it is the first operand.
     */
    private boolean judgeNext(int facts) {
        int waiting = 0;
        for (int i = tokenCount - 1; i >= 0; i--) {
            int g = waiting & 1;
            int h = (waiting >> 1) & 1;
            int value = valueAt(i, facts, g, h);
            int others = waiting >> operands(tokens[i]);
            waiting = (others << 1) | value;
        }
        return (waiting & 1) == 1;
    }

    private int valueAt(int place, int facts, int g, int h) {
        switch (tokens[place]) {
            case NOT:
                return 1 - g;
            case AND:
                return g & h;
            case OR:
                return g | h;
            case BEFORE:
                return before(place, g);
            case ONCE:
                return remember(place, memory[place] | g);
            case ALWAYS:
                // What is remembered is a failure, so that every memory starts at 0.
                return 1 - remember(place, memory[place] | (1 - g));
            case SINCE:
                return remember(place, h | (g & memory[place]));
            case LATELY:
                return seenInWindow(place, g);
            case STEADY:
                return 1 - seenInWindow(place, 1 - g);
            default:
                return (facts >> tokens[place]) & 1;
        }
    }

    private int before(int place, int g) {
        int old = memory[place];
        memory[place] = g;
        return old;
    }

    private int remember(int place, int value) {
        memory[place] = value;
        return value;
    }

    /** Keeps one bit for each event of the window; events before the first count as 0. */
    private int seenInWindow(int place, int value) {
        int reach = (2 << window) - 1;
        memory[place] = ((memory[place] << 1) | value) & reach;
        return memory[place] != 0 ? 1 : 0;
    }
}
