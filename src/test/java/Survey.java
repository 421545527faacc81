import java.util.ArrayList;
import java.util.List;
import java.util.function.Supplier;
import java.util.function.ToIntFunction;

/** Asks an object for every part of its circuit, in 370 calls: within the 512 it may be used for. */
final class Survey {
    private final List<String> calls = new ArrayList<>();
    private final List<Integer> answers = new ArrayList<>();

    private Survey(InductionDesk x) {
        askRuns(x);
        askGates(x);
        // From here on the survey changes the circuit: what was there comes out as an answer.
        askBeginnings(x);
        for (int latch = 1; latch <= 4; latch++) {
            add("next(" + latch + ", 0)", x.next(latch, 0));
        }
        add("gate(0, 0)", x.gate(0, 0));
    }

    /** The call answers -1, and all that follows is as on an object on which it was not made. */
    static void refused(Check check, Supplier<InductionDesk> circuit, String name,
            ToIntFunction<InductionDesk> call) {
        InductionDesk called = circuit.get();
        check.due(name, call.applyAsInt(called), -1);
        Survey after = new Survey(called);
        Survey untouched = new Survey(circuit.get());
        for (int i = 0; i < untouched.answers.size(); i++) {
            check.due(name + " refused, then " + untouched.calls.get(i), after.answers.get(i), untouched.answers.get(i));
        }
    }

    private void add(String call, int answer) {
        calls.add(call);
        answers.add(answer);
    }

    private void askRuns(InductionDesk x) {
        for (int n = 0; n <= 6; n++) {
            add("depth(" + n + ")", x.depth(n));
            add("holds(" + n + ")", x.holds(n));
            add("witness(" + n + ")", x.witness(n));
            add("input(" + n + ")", x.input(n));
        }
        add("proof()", x.proof());
    }

    private void askGates(InductionDesk x) {
        for (int literal = 12; literal <= 30; literal += 2) {
            for (int state = 0; state <= 15; state++) {
                add("value(" + literal + ", " + state + ", 0)", x.value(literal, state, 0));
                add("value(" + literal + ", " + state + ", 1)", x.value(literal, state, 1));
            }
        }
    }

    private void askBeginnings(InductionDesk x) {
        for (int literal = 2; literal <= 9; literal++) {
            add("bad(" + literal + ")", x.bad(literal));
            add("depth(0), bad " + literal, x.depth(0));
        }
    }
}
