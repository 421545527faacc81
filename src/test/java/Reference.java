import java.util.ArrayList;
import java.util.List;

/** The document's terms once more, as plainly as they are written: lists, recursion, no tables. */
final class Reference {
    /** One run: its states and its input values, both n + 1 long. */
    private record Run(List<Integer> states, List<Integer> inputs) {
    }

    private final List<int[]> gates = new ArrayList<>();
    private final int[] next = {0, 2, 4, 6, 8};
    private final int[] begin = {0, 0, 0, 0, 0};
    private int bad = 0;

    private boolean refused(int literal) {
        return literal < 0 || literal / 2 > 5 + gates.size();
    }

    int gate(int a, int b) {
        if (refused(a) || refused(b) || gates.size() == 10) {
            return -1;
        }
        gates.add(new int[] {a, b});
        return 5 + gates.size();
    }

    int next(int latch, int literal) {
        if (latch < 1 || latch > 4 || refused(literal)) {
            return -1;
        }
        int before = next[latch];
        next[latch] = literal;
        return before;
    }

    int begin(int latch, int value) {
        if (latch < 1 || latch > 4 || value < 0 || value > 2) {
            return -1;
        }
        begin[latch] = value;
        return 0;
    }

    int bad(int literal) {
        if (refused(literal)) {
            return -1;
        }
        int before = bad;
        bad = literal;
        return before;
    }

    int value(int literal, int state, int input) {
        if (refused(literal) || state < 0 || state > 15) {
            return -1;
        }
        return valueOf(literal, state, input & 1);
    }

    private int valueOf(int literal, int state, int input) {
        int signal = literal / 2;
        int value;
        if (signal == 0) {
            value = 0;
        } else if (signal <= 4) {
            value = state / (1 << (signal - 1)) % 2;
        } else if (signal == 5) {
            value = input;
        } else {
            int[] gate = gates.get(signal - 6);
            boolean both = valueOf(gate[0], state, input) == 1 && valueOf(gate[1], state, input) == 1;
            value = both ? 1 : 0;
        }
        return literal % 2 == 0 ? value : 1 - value;
    }

    private int step(int state, int input) {
        int sum = 0;
        for (int latch = 1; latch <= 4; latch++) {
            sum += valueOf(next[latch], state, input) * (1 << (latch - 1));
        }
        return sum;
    }

    private boolean isBeginning(int state) {
        for (int latch = 1; latch <= 4; latch++) {
            int value = valueOf(2 * latch, state, 0);
            boolean allowed = begin[latch] == 2 || begin[latch] == value;
            if (!allowed) {
                return false;
            }
        }
        return true;
    }

    /** The first bad run of length n that starts in the state and passes none of the states barred. */
    private Run firstBad(int state, int n, boolean different, List<Integer> barred) {
        if (different && barred.contains(state)) {
            return null;
        }
        for (int input = 0; input <= 1; input++) {
            int badHere = valueOf(bad, state, input);
            if (n == 0 && badHere == 1) {
                return new Run(List.of(state), List.of(input));
            }
            if (n > 0 && badHere == 0) {
                List<Integer> more = new ArrayList<>(barred);
                more.add(state);
                Run rest = firstBad(step(state, input), n - 1, different, more);
                if (rest != null) {
                    return before(state, input, rest);
                }
            }
        }
        return null;
    }

    private static Run before(int state, int input, Run rest) {
        List<Integer> states = new ArrayList<>(List.of(state));
        states.addAll(rest.states());
        List<Integer> inputs = new ArrayList<>(List.of(input));
        inputs.addAll(rest.inputs());
        return new Run(states, inputs);
    }

    private Run firstBadFromBeginning(int n) {
        for (int state = 0; state <= 15; state++) {
            if (isBeginning(state)) {
                Run run = firstBad(state, n, false, List.of());
                if (run != null) {
                    return run;
                }
            }
        }
        return null;
    }

    int depth(int limit) {
        if (limit < 0 || limit > 6) {
            return -1;
        }
        for (int n = 0; n <= limit; n++) {
            if (firstBadFromBeginning(n) != null) {
                return n;
            }
        }
        return -1;
    }

    int holds(int k) {
        if (k < 0 || k > 6) {
            return -1;
        }
        for (int state = 0; state <= 15; state++) {
            if (firstBad(state, k, true, List.of()) != null) {
                return 0;
            }
        }
        return 1;
    }

    int proof() {
        for (int k = 0; k <= 6; k++) {
            boolean badBelow = k > 0 && depth(k - 1) != -1;
            if (holds(k) == 1 && !badBelow) {
                return k;
            }
        }
        return -1;
    }

    int witness(int i) {
        int n = depth(6);
        return n == -1 || i < 0 || i > n ? -1 : firstBadFromBeginning(n).states().get(i);
    }

    int input(int i) {
        int n = depth(6);
        return n == -1 || i < 0 || i > n ? -1 : firstBadFromBeginning(n).inputs().get(i);
    }
}
