/** Every promise of the document by examples worked out by hand: ordinary inputs, edges, wrong inputs. */
public final class PromiseTest {
    private static final int MIN = Integer.MIN_VALUE;
    private static final int MAX = Integer.MAX_VALUE;
    private static final Check check = new Check();

    private PromiseTest() {
    }

    public static void main(String[] args) {
        promise1NewObject();
        promise2Gate();
        promise2AtMostTen();
        promise3Next();
        promise4Begin();
        promise5Bad();
        promise6Value();
        promise7Depth();
        promise7Limits();
        promise8Holds();
        promise8LooksAtAllStates();
        promise8NeedsDifferentStates();
        promise9Proof();
        promise9Greatest();
        promise10Witness();
        orderOfRuns();
        promise11Input();
        badRunAvoidsBadBefore();
        refusalsChangeNothing();
        objectsAreApart();
        check.end();
    }

    private static void promise1NewObject() {
        check.part("promise 1");
        InductionDesk x = new InductionDesk();
        check.due("bad(0)", x.bad(0), 0);
        for (int latch = 1; latch <= 4; latch++) {
            check.due("next(" + latch + ", 0)", x.next(latch, 0), 2 * latch);
        }
        check.due("value(12, 0, 0)", x.value(12, 0, 0), -1);
        check.due("gate(0, 0)", x.gate(0, 0), 6);

        InductionDesk fresh = new InductionDesk();
        check.due("depth(6)", fresh.depth(6), -1);
        check.due("proof()", fresh.proof(), 0);
        check.due("witness(0)", fresh.witness(0), -1);
        check.due("input(0)", fresh.input(0), -1);
        for (int k = 0; k <= 6; k++) {
            check.due("holds(" + k + ")", fresh.holds(k), 1);
        }
        // Each latch begins at 0 and stays: its opposite is bad at once, itself never.
        for (int latch = 1; latch <= 4; latch++) {
            fresh.bad(2 * latch);
            check.due("depth(6), bad " + 2 * latch, fresh.depth(6), -1);
            fresh.bad(2 * latch + 1);
            check.due("depth(6), bad " + (2 * latch + 1), fresh.depth(6), 0);
        }
    }

    private static void promise2Gate() {
        check.part("promise 2");
        InductionDesk x = new InductionDesk();
        check.due("gate(12, 0)", x.gate(12, 0), -1);
        check.due("gate(0, 12)", x.gate(0, 12), -1);
        check.due("gate(13, 0)", x.gate(13, 0), -1);
        check.due("gate(-1, 0)", x.gate(-1, 0), -1);
        check.due("gate(0, -1)", x.gate(0, -1), -1);
        check.due("gate(32, 0)", x.gate(32, 0), -1);
        check.due("gate(0, 33)", x.gate(0, 33), -1);
        check.due("gate(MIN, 0)", x.gate(MIN, 0), -1);
        check.due("gate(0, MAX)", x.gate(0, MAX), -1);
        check.due("gate(2, 11)", x.gate(2, 11), 6);
        check.due("value(12, 1, 0)", x.value(12, 1, 0), 1);
        check.due("value(12, 1, 1)", x.value(12, 1, 1), 0);
        check.due("value(12, 0, 0)", x.value(12, 0, 0), 0);
        check.due("gate(14, 0)", x.gate(14, 0), -1);
        check.due("gate(13, 13)", x.gate(13, 13), 7);
        check.due("value(14, 1, 0)", x.value(14, 1, 0), 0);
        check.due("value(14, 1, 1)", x.value(14, 1, 1), 1);
        check.due("gate(1, 1)", x.gate(1, 1), 8);
        check.due("value(16, 0, 0)", x.value(16, 0, 0), 1);
    }

    private static void promise2AtMostTen() {
        check.part("promise 2, ten gates");
        InductionDesk x = new InductionDesk();
        check.due("gate(2, 2)", x.gate(2, 2), 6);
        for (int signal = 7; signal <= 15; signal++) {
            int opposite = 2 * (signal - 1) + 1;
            check.due("gate of " + opposite, x.gate(opposite, opposite), signal);
        }
        check.due("gate(2, 2), the eleventh", x.gate(2, 2), -1);
        check.due("gate(32, 32)", x.gate(32, 32), -1);
        check.due("value(30, 1, 0)", x.value(30, 1, 0), 0);
        check.due("value(31, 1, 0)", x.value(31, 1, 0), 1);
        check.due("value(30, 0, 0)", x.value(30, 0, 0), 1);
        check.due("value(32, 0, 0)", x.value(32, 0, 0), -1);
    }

    private static void promise3Next() {
        check.part("promise 3");
        InductionDesk x = new InductionDesk();
        check.due("next(0, 2)", x.next(0, 2), -1);
        check.due("next(5, 2)", x.next(5, 2), -1);
        check.due("next(6, 2)", x.next(6, 2), -1);
        check.due("next(-1, 2)", x.next(-1, 2), -1);
        check.due("next(MIN, 2)", x.next(MIN, 2), -1);
        check.due("next(MAX, 2)", x.next(MAX, 2), -1);
        check.due("next(1, -1)", x.next(1, -1), -1);
        check.due("next(1, 12)", x.next(1, 12), -1);
        check.due("next(1, MAX)", x.next(1, MAX), -1);
        check.due("next(1, MIN)", x.next(1, MIN), -1);
        check.due("next(1, 11)", x.next(1, 11), 2);
        check.due("next(1, 1)", x.next(1, 1), 11);
        check.due("next(1, 0)", x.next(1, 0), 1);
        check.due("next(4, 3)", x.next(4, 3), 8);
        check.due("next(4, 8)", x.next(4, 8), 3);
        check.due("gate(2, 4)", x.gate(2, 4), 6);
        check.due("next(2, 13)", x.next(2, 13), 4);
        check.due("next(2, 4)", x.next(2, 4), 13);

        // All latches step at once: two latches that take each other's value change places.
        InductionDesk swap = new InductionDesk();
        swap.next(1, 4);
        swap.next(2, 2);
        swap.begin(1, 1);
        swap.bad(4);
        check.due("depth(6)", swap.depth(6), 1);
        check.due("witness(0)", swap.witness(0), 1);
        check.due("witness(1)", swap.witness(1), 2);
    }

    private static void promise4Begin() {
        check.part("promise 4");
        InductionDesk x = new InductionDesk();
        check.due("begin(0, 0)", x.begin(0, 0), -1);
        check.due("begin(5, 0)", x.begin(5, 0), -1);
        check.due("begin(-1, 1)", x.begin(-1, 1), -1);
        check.due("begin(MIN, 1)", x.begin(MIN, 1), -1);
        check.due("begin(MAX, 1)", x.begin(MAX, 1), -1);
        check.due("begin(1, -1)", x.begin(1, -1), -1);
        check.due("begin(1, 3)", x.begin(1, 3), -1);
        check.due("begin(4, MAX)", x.begin(4, MAX), -1);
        check.due("begin(4, MIN)", x.begin(4, MIN), -1);
        for (int latch = 1; latch <= 4; latch++) {
            x.bad(2 * latch);
            check.due("depth(0), begins 0", x.depth(0), -1);
            check.due("begin(" + latch + ", 1)", x.begin(latch, 1), 0);
            check.due("depth(0), begins 1", x.depth(0), 0);
            check.due("witness(0), begins 1", x.witness(0), 1 << (latch - 1));
            x.bad(2 * latch + 1);
            check.due("depth(0), opposite, begins 1", x.depth(0), -1);
            check.due("begin(" + latch + ", 2)", x.begin(latch, 2), 0);
            check.due("depth(0), opposite, either", x.depth(0), 0);
            check.due("witness(0), opposite, either", x.witness(0), 0);
            x.bad(2 * latch);
            check.due("depth(0), either", x.depth(0), 0);
            check.due("witness(0), either", x.witness(0), 1 << (latch - 1));
            check.due("begin(" + latch + ", 0)", x.begin(latch, 0), 0);
            check.due("depth(0), begins 0 again", x.depth(0), -1);
        }
    }

    private static void promise5Bad() {
        check.part("promise 5");
        InductionDesk x = new InductionDesk();
        check.due("bad(12)", x.bad(12), -1);
        check.due("bad(-1)", x.bad(-1), -1);
        check.due("bad(MIN)", x.bad(MIN), -1);
        check.due("bad(MAX)", x.bad(MAX), -1);
        check.due("bad(11)", x.bad(11), 0);
        check.due("bad(10)", x.bad(10), 11);
        check.due("bad(1)", x.bad(1), 10);
        check.due("depth(0)", x.depth(0), 0);
        check.due("gate(2, 2)", x.gate(2, 2), 6);
        check.due("bad(14)", x.bad(14), -1);
        check.due("bad(13)", x.bad(13), 1);
        check.due("bad(12)", x.bad(12), 13);
        check.due("depth(6)", x.depth(6), -1);
    }

    private static void promise6Value() {
        check.part("promise 6");
        InductionDesk x = new InductionDesk();
        for (int state = 0; state <= 15; state++) {
            for (int latch = 1; latch <= 4; latch++) {
                int want = (state >> (latch - 1)) & 1;
                check.due("value(" + 2 * latch + ", " + state + ", 0)", x.value(2 * latch, state, 0), want);
                check.due("value(" + (2 * latch + 1) + ", " + state + ", 1)",
                        x.value(2 * latch + 1, state, 1), 1 - want);
            }
            check.due("value(0, " + state + ", 1)", x.value(0, state, 1), 0);
            check.due("value(1, " + state + ", 0)", x.value(1, state, 0), 1);
        }
        check.due("value(10, 0, 0)", x.value(10, 0, 0), 0);
        check.due("value(10, 0, 1)", x.value(10, 0, 1), 1);
        check.due("value(11, 0, 1)", x.value(11, 0, 1), 0);
        check.due("value(10, 0, 2)", x.value(10, 0, 2), 0);
        check.due("value(10, 0, 7)", x.value(10, 0, 7), 1);
        check.due("value(10, 0, -1)", x.value(10, 0, -1), 1);
        check.due("value(10, 0, -2)", x.value(10, 0, -2), 0);
        check.due("value(10, 0, MIN)", x.value(10, 0, MIN), 0);
        check.due("value(10, 0, MAX)", x.value(10, 0, MAX), 1);
        check.due("value(2, 16, 0)", x.value(2, 16, 0), -1);
        check.due("value(2, -1, 0)", x.value(2, -1, 0), -1);
        check.due("value(2, MIN, 0)", x.value(2, MIN, 0), -1);
        check.due("value(2, MAX, 0)", x.value(2, MAX, 0), -1);
        check.due("value(12, 0, 0)", x.value(12, 0, 0), -1);
        check.due("value(-1, 0, 0)", x.value(-1, 0, 0), -1);
        check.due("value(MAX, 0, 0)", x.value(MAX, 0, 0), -1);
        check.due("value(MIN, 0, 0)", x.value(MIN, 0, 0), -1);
    }

    private static void promise7Depth() {
        check.part("promise 7");
        InductionDesk x = Circuits.shiftRegister();
        for (int latch = 1; latch <= 4; latch++) {
            x.bad(2 * latch);
            check.due("depth(6), bad " + 2 * latch, x.depth(6), latch);
            check.due("depth at its own length", x.depth(latch), latch);
            check.due("depth below its length", x.depth(latch - 1), -1);
        }
        check.due("depth(7)", x.depth(7), -1);
        check.due("depth(-1)", x.depth(-1), -1);
        check.due("depth(MAX)", x.depth(MAX), -1);
        check.due("depth(MIN)", x.depth(MIN), -1);
        x.begin(2, 2);
        check.due("depth(6), latch 2 either", x.depth(6), 2);
    }

    private static void promise7Limits() {
        check.part("promise 7, six and seven steps");
        InductionDesk six = Circuits.counter();
        six.gate(5, 7); // 15: latches 2 and 3 are 0
        six.bad(30);
        six.begin(2, 1);
        // From 2, the states 8 and 9 and 0 and 1 are bad: six steps to 8.
        check.due("depth(6)", six.depth(6), 6);
        check.due("depth(5)", six.depth(5), -1);
        check.due("witness(6)", six.witness(6), 8);
        check.due("witness(5)", six.witness(5), 7);
        check.due("witness(7)", six.witness(7), -1);
        check.due("input(6)", six.input(6), 0);
        check.due("input(7)", six.input(7), -1);

        InductionDesk seven = Circuits.counter();
        seven.bad(8);
        seven.begin(1, 1);
        check.due("depth(6), seven steps away", seven.depth(6), -1);
        check.due("witness(0), seven steps away", seven.witness(0), -1);
        check.due("input(0), seven steps away", seven.input(0), -1);
        check.due("proof(), seven steps away", seven.proof(), -1);
        seven.begin(1, 2);
        check.due("depth(6), still seven", seven.depth(6), -1);
        seven.begin(2, 1);
        check.due("depth(6), from 3", seven.depth(6), 5);
        check.due("witness(0), from 3", seven.witness(0), 3);
    }

    private static void promise8Holds() {
        check.part("promise 8");
        InductionDesk x = Circuits.shiftRegister();
        check.due("holds(7)", x.holds(7), -1);
        check.due("holds(-1)", x.holds(-1), -1);
        check.due("holds(MAX)", x.holds(MAX), -1);
        check.due("holds(MIN)", x.holds(MIN), -1);
        check.due("holds(0), nothing bad", x.holds(0), 1);
        check.due("holds(6), nothing bad", x.holds(6), 1);
        x.bad(1);
        check.due("holds(0), all bad", x.holds(0), 0);
        check.due("holds(1), all bad", x.holds(1), 1);
        x.bad(4);
        check.due("holds(0), bad 4", x.holds(0), 0);
        check.due("holds(1), bad 4", x.holds(1), 0);
        check.due("holds(2), bad 4", x.holds(2), 0);
    }

    private static void promise8LooksAtAllStates() {
        check.part("promise 8, from the beginning or not");
        InductionDesk x = Circuits.counter();
        x.gate(26, 0); // 15
        x.bad(24);
        // Only 15 is bad; every state that comes before it counts, wherever the beginning is.
        for (int k = 0; k <= 6; k++) {
            check.due("holds(" + k + ")", x.holds(k), 0);
        }
        check.due("proof()", x.proof(), -1);
        check.due("depth(6)", x.depth(6), -1);
    }

    private static void promise8NeedsDifferentStates() {
        check.part("promise 8, different states");
        // Latch 1 waits at 0 until the input is 1: long bad runs must stay in one state.
        InductionDesk x = new InductionDesk();
        x.next(1, 10);
        x.bad(2);
        check.due("holds(0)", x.holds(0), 0);
        check.due("holds(1)", x.holds(1), 0);
        check.due("holds(2)", x.holds(2), 1);
        check.due("holds(6)", x.holds(6), 1);
        // The last state counts too: the input alone makes it bad, and no state ever changes.
        InductionDesk still = new InductionDesk();
        still.bad(10);
        check.due("holds(0), still", still.holds(0), 0);
        check.due("holds(1), still", still.holds(1), 1);
        check.due("depth(6), still", still.depth(6), 0);
        check.due("input(0), still", still.input(0), 1);
    }

    private static void promise9Proof() {
        check.part("promise 9");
        InductionDesk x = new InductionDesk();
        check.due("proof(), nothing bad", x.proof(), 0);
        x.bad(1);
        check.due("proof(), all bad", x.proof(), -1);
        x.bad(2);
        check.due("proof(), latch 1 stays 0", x.proof(), 1);
        x.begin(1, 2);
        check.due("proof(), latch 1 either", x.proof(), -1);
        x.begin(1, 0);
        x.next(1, 4);
        check.due("proof(), latch 1 takes 2", x.proof(), 2);
        x.next(2, 6);
        check.due("proof(), latch 2 takes 3", x.proof(), 3);
        x.next(3, 8);
        check.due("proof(), latch 3 takes 4", x.proof(), 4);
        check.due("holds(3)", x.holds(3), 0);
        check.due("holds(4)", x.holds(4), 1);
        x.begin(4, 1);
        // holds(4) is 1, but a bad run of length 3 leads from the beginning.
        check.due("depth(6)", x.depth(6), 3);
        check.due("proof(), latch 4 begins 1", x.proof(), -1);
    }

    private static void promise9Greatest() {
        check.part("promise 9, k = 6 and above");
        // The longest way into the bad state 7 begins in 2 and has five steps.
        InductionDesk six = chainUpToSeven();
        six.bad(30);
        check.due("holds(5)", six.holds(5), 0);
        check.due("holds(6)", six.holds(6), 1);
        check.due("proof()", six.proof(), 6);

        InductionDesk seven = Circuits.counter();
        seven.gate(24, 24); // 15
        seven.bad(30);
        check.due("holds(6), counter", seven.holds(6), 0);
        check.due("proof(), counter", seven.proof(), -1);
    }

    /**
     * With latch 4 at 0, the states 2, 3, 4, 5, 6, 7 follow one another; 7, 0 and 1 lead to 0.
     * Latch 4 never changes. Gate 15 is 1 in state 7 alone.
     */
    private static InductionDesk chainUpToSeven() {
        InductionDesk x = new InductionDesk();
        x.gate(5, 7);   // 6: latches 2 and 3 both 0, the states 0 and 1
        x.gate(3, 13);  // 7: next of latch 1: opposite, unless in 0 or 1
        x.gate(2, 4);   // 8: carry into latch 3
        x.gate(3, 5);   // 9
        x.gate(17, 19); // 10: latch 1 unlike latch 2
        x.gate(20, 13); // 11: next of latch 2
        x.gate(16, 6);  // 12: state 7
        x.gate(17, 7);  // 13
        x.gate(25, 27); // 14: latch 3 unlike the carry
        x.gate(24, 9);  // 15: state 7 with latch 4 at 0
        x.next(1, 14);
        x.next(2, 22);
        x.next(3, 28);
        x.next(4, 8);
        return x;
    }

    private static void promise10Witness() {
        check.part("promise 10");
        InductionDesk x = Circuits.shiftRegister();
        x.bad(8);
        int[] states = {0, 1, 2, 4, 8};
        for (int i = 0; i <= 4; i++) {
            check.due("witness(" + i + ")", x.witness(i), states[i]);
        }
        check.due("witness(5)", x.witness(5), -1);
        check.due("witness(-1)", x.witness(-1), -1);
        check.due("witness(MAX)", x.witness(MAX), -1);
        check.due("witness(MIN)", x.witness(MIN), -1);
        x.bad(0);
        check.due("witness(0), nothing bad", x.witness(0), -1);
        x.bad(1);
        check.due("witness(0), all bad", x.witness(0), 0);
        check.due("witness(1), all bad", x.witness(1), -1);
    }

    private static void orderOfRuns() {
        check.part("order of runs");
        // Both input values of the first two steps lead to bad: the least inputs are taken.
        InductionDesk x = new InductionDesk();
        x.next(1, 10);
        x.next(2, 1);
        x.next(3, 4);
        x.bad(6);
        check.due("depth(6)", x.depth(6), 2);
        check.due("input(0)", x.input(0), 0);
        check.due("input(1)", x.input(1), 0);
        check.due("input(2)", x.input(2), 0);
        check.due("witness(1)", x.witness(1), 2);
        check.due("witness(2)", x.witness(2), 6);

        // x0 goes before x1: bad after 01 or 10, so the first run is 01.
        InductionDesk y = Circuits.shiftRegister();
        y.gate(2, 4);
        y.gate(3, 5);
        y.gate(13, 15);
        y.gate(16, 8);
        y.next(3, 1);
        y.next(4, 6);
        y.bad(18);
        check.due("depth(6), 01 or 10", y.depth(6), 2);
        check.due("input(0), 01 or 10", y.input(0), 0);
        check.due("input(1), 01 or 10", y.input(1), 1);
        check.due("witness(1), 01 or 10", y.witness(1), 4);
        check.due("witness(2), 01 or 10", y.witness(2), 13);

        // s0 goes before x0: state 1 needs the input 1, state 2 the input 0.
        InductionDesk z = new InductionDesk();
        z.begin(1, 2);
        z.begin(2, 2);
        z.gate(2, 10);
        z.gate(4, 11);
        z.gate(13, 15);
        z.bad(17);
        check.due("witness(0), state before input", z.witness(0), 1);
        check.due("input(0), state before input", z.input(0), 1);
    }

    private static void promise11Input() {
        check.part("promise 11");
        InductionDesk x = Circuits.shiftRegister();
        x.bad(6);
        int[] inputs = {1, 0, 0, 0};
        for (int i = 0; i <= 3; i++) {
            check.due("input(" + i + ")", x.input(i), inputs[i]);
        }
        check.due("input(4)", x.input(4), -1);
        check.due("input(-1)", x.input(-1), -1);
        check.due("input(MAX)", x.input(MAX), -1);
        check.due("input(MIN)", x.input(MIN), -1);
        x.gate(6, 10);
        x.bad(12);
        check.due("depth(6), last input needed", x.depth(6), 3);
        check.due("input(3), last input needed", x.input(3), 1);
        check.due("input(0), last input needed", x.input(0), 1);
        check.due("input(1), last input needed", x.input(1), 0);
        x.bad(0);
        check.due("input(0), nothing bad", x.input(0), -1);
    }

    private static void badRunAvoidsBadBefore() {
        check.part("bad only at the end");
        // State 1 is bad with either input and each state leads to 1: no bad run goes on from 1.
        InductionDesk x = new InductionDesk();
        x.next(1, 1);
        x.next(2, 2);
        x.bad(2);
        check.due("holds(1)", x.holds(1), 0);
        check.due("holds(2)", x.holds(2), 1);
        // A state that is bad with one input value only may be passed with the other.
        x.gate(2, 11);
        x.bad(12);
        check.due("holds(2), passed with input 1", x.holds(2), 0);
        check.due("holds(3), passed with input 1", x.holds(3), 1);
    }

    private static void refusalsChangeNothing() {
        check.part("refused calls");
        InductionDesk x = Circuits.shiftRegister();
        x.bad(4);
        x.next(1, 12);
        x.next(1, -1);
        x.next(5, 0);
        x.begin(1, 3);
        x.begin(1, -1);
        x.begin(5, 1);
        x.bad(12);
        x.bad(-1);
        x.gate(12, 0);
        x.gate(0, -1);
        x.value(12, 0, 0);
        x.value(0, 16, 0);
        x.depth(7);
        x.holds(-1);
        x.witness(9);
        x.input(-3);
        check.due("depth(6)", x.depth(6), 2);
        check.due("witness(0)", x.witness(0), 0);
        check.due("input(0)", x.input(0), 1);
        check.due("bad(0)", x.bad(0), 4);
        check.due("next(1, 0)", x.next(1, 0), 10);
        check.due("gate(0, 0)", x.gate(0, 0), 6);
    }

    private static void objectsAreApart() {
        check.part("two objects");
        InductionDesk x = new InductionDesk();
        InductionDesk y = new InductionDesk();
        x.gate(2, 4);
        x.next(1, 1);
        x.begin(2, 1);
        x.bad(2);
        check.due("x.depth(6)", x.depth(6), 1);
        check.due("y.depth(6)", y.depth(6), -1);
        check.due("y.bad(5)", y.bad(5), 0);
        check.due("y.depth(6)", y.depth(6), 0);
        check.due("y.gate(0, 0)", y.gate(0, 0), 6);
        check.due("y.next(1, 0)", y.next(1, 0), 2);
        check.due("x.witness(0)", x.witness(0), 2);
    }
}
