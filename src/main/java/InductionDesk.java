/**
 * A circuit of four latches, one input and at most ten gates: whether it ever comes into a bad
 * state, and whether a look at a few steps is enough to show that it does not.
 *
 * <p>A run of length n is held as one number: the bits of its first state, then x0, x1, up to xn
 * as the lowest bit. In this form the order of the runs is the order of their numbers.
 */
public final class InductionDesk {
    private static final int REFUSED = -1;
    private static final int NONE = -1;

    private static final int SIGNALS = 16;
    private static final int LATCHES = 4;
    private static final int INPUT_SIGNAL = 5;
    private static final int FIRST_GATE = 6;

    private static final int STATES = 16;
    private static final int PLACES = 32;
    private static final int EITHER = 2;
    private static final int LONGEST = 6;

    private final int[] gateLeft = new int[SIGNALS];
    private final int[] gateRight = new int[SIGNALS];
    private final int[] nextLiteral = new int[FIRST_GATE];
    private final int[] beginning = new int[FIRST_GATE];
    private int signalsMade;
    private int badLiteral;

    // A place is a state together with an input value: 2 * state + input.
    private final int[] stateAfter = new int[PLACES];
    private final boolean[] badAt = new boolean[PLACES];

    public InductionDesk() {
        signalsMade = FIRST_GATE;
        badLiteral = 0;
        for (int latch = 1; latch <= LATCHES; latch++) {
            nextLiteral[latch] = 2 * latch;
            beginning[latch] = 0;
        }
    }

    public int gate(int a, int b) {
        if (!isLiteral(a) || !isLiteral(b) || signalsMade >= SIGNALS) {
            return REFUSED;
        }
        int made = signalsMade;
        gateLeft[made] = a;
        gateRight[made] = b;
        signalsMade = made + 1;
        return made;
    }

    public int next(int latch, int literal) {
        if (!isLatch(latch) || !isLiteral(literal)) {
            return REFUSED;
        }
        int before = nextLiteral[latch];
        nextLiteral[latch] = literal;
        return before;
    }

    public int begin(int latch, int value) {
        if (!isLatch(latch) || value < 0 || value > EITHER) {
            return REFUSED;
        }
        beginning[latch] = value;
        return 0;
    }

    public int bad(int literal) {
        if (!isLiteral(literal)) {
            return REFUSED;
        }
        int before = badLiteral;
        badLiteral = literal;
        return before;
    }

    public int value(int literal, int state, int input) {
        if (!isLiteral(literal) || state < 0 || state >= STATES) {
            return REFUSED;
        }
        int signals = signalValues(state, input & 1);
        return literalValue(literal, signals);
    }

    public int depth(int limit) {
        if (!isLength(limit)) {
            return REFUSED;
        }
        tabulateCircuit();
        return leastBadLength(limit);
    }

    public int holds(int k) {
        if (!isLength(k)) {
            return REFUSED;
        }
        tabulateCircuit();
        return hasBadRunOfDifferentStates(k) ? 0 : 1;
    }

    public int proof() {
        tabulateCircuit();
        for (int k = 0; k <= LONGEST; k++) {
            if (!hasBadRunOfDifferentStates(k)) {
                return k;
            }
            // A bad run of length k rules out every greater k, but not k itself.
            if (firstBadRunFromBeginning(k) != NONE) {
                return NONE;
            }
        }
        return NONE;
    }

    public int witness(int i) {
        tabulateCircuit();
        int length = leastBadLength(LONGEST);
        if (length == NONE || i < 0 || i > length) {
            return REFUSED;
        }
        int run = firstBadRunFromBeginning(length);
        return stateOfRun(run, length, i);
    }

    public int input(int i) {
        tabulateCircuit();
        int length = leastBadLength(LONGEST);
        if (length == NONE || i < 0 || i > length) {
            return REFUSED;
        }
        int run = firstBadRunFromBeginning(length);
        return inputOfRun(run, length, i);
    }

    private boolean isLiteral(int literal) {
        return literal >= 0 && literal < 2 * signalsMade;
    }

    private static boolean isLatch(int signal) {
        return signal >= 1 && signal <= LATCHES;
    }

    private static boolean isLength(int length) {
        return length >= 0 && length <= LONGEST;
    }

    /** The values of all signals, signal s as bit s. */
    private int signalValues(int state, int inputValue) {
        int signals = (state << 1) | (inputValue << INPUT_SIGNAL);
        // A gate has only literals of signals made before it, so one pass in order is enough.
        for (int made = FIRST_GATE; made < signalsMade; made++) {
            int left = literalValue(gateLeft[made], signals);
            int right = literalValue(gateRight[made], signals);
            signals |= (left & right) << made;
        }
        return signals;
    }

    private static int literalValue(int literal, int signals) {
        int signalValue = (signals >> (literal >> 1)) & 1;
        return signalValue ^ (literal & 1);
    }

    // The searches pass each place many times; without tables each pass would work out every gate.
    private void tabulateCircuit() {
        for (int place = 0; place < PLACES; place++) {
            int signals = signalValues(place >> 1, place & 1);
            badAt[place] = literalValue(badLiteral, signals) == 1;
            stateAfter[place] = stateReached(signals);
        }
    }

    private int stateReached(int signals) {
        int reached = 0;
        for (int latch = 1; latch <= LATCHES; latch++) {
            int latchValue = literalValue(nextLiteral[latch], signals);
            reached |= latchValue << (latch - 1);
        }
        return reached;
    }

    private boolean isBeginningState(int state) {
        for (int latch = 1; latch <= LATCHES; latch++) {
            int latchValue = (state >> (latch - 1)) & 1;
            if (beginning[latch] != EITHER && beginning[latch] != latchValue) {
                return false;
            }
        }
        return true;
    }

    private int leastBadLength(int limit) {
        for (int length = 0; length <= limit; length++) {
            if (firstBadRunFromBeginning(length) != NONE) {
                return length;
            }
        }
        return NONE;
    }

    private int firstBadRunFromBeginning(int length) {
        int runs = runsOfLength(length);
        for (int run = 0; run < runs; run++) {
            int start = stateOfRun(run, length, 0);
            if (isBeginningState(start) && isBadRun(run, length)) {
                return run;
            }
        }
        return NONE;
    }

    private boolean hasBadRunOfDifferentStates(int length) {
        int runs = runsOfLength(length);
        for (int run = 0; run < runs; run++) {
            if (isBadRun(run, length) && hasDifferentStates(run, length)) {
                return true;
            }
        }
        return false;
    }

    private static int runsOfLength(int length) {
        return STATES << (length + 1);
    }

    private static int inputOfRun(int run, int length, int i) {
        return (run >> (length - i)) & 1;
    }

    private int stateOfRun(int run, int length, int i) {
        int state = run >> (length + 1);
        for (int done = 0; done < i; done++) {
            int inputValue = inputOfRun(run, length, done);
            state = stateAfter[2 * state + inputValue];
        }
        return state;
    }

    private boolean isBadRun(int run, int length) {
        int state = run >> (length + 1);
        for (int i = 0; i < length; i++) {
            int inputValue = inputOfRun(run, length, i);
            int place = 2 * state + inputValue;
            if (badAt[place]) {
                return false;
            }
            state = stateAfter[place];
        }
        int lastInput = inputOfRun(run, length, length);
        return badAt[2 * state + lastInput];
    }

    private boolean hasDifferentStates(int run, int length) {
        int seen = 0;
        for (int i = 0; i <= length; i++) {
            int state = stateOfRun(run, length, i);
            if (((seen >> state) & 1) == 1) {
                return false;
            }
            seen |= 1 << state;
        }
        return true;
    }
}
