/** The edges that the document's section "Terms" names: one test for each sentence, which it bears. */
public final class TermEdgeTest {
    private static final int MIN = Integer.MIN_VALUE;
    private static final int MAX = Integer.MAX_VALUE;
    private static final int[] OUTSIDE_LATCHES = {MIN, -4, -1, 0, 5, 6, 15, 16, MAX};
    private static final Check check = new Check();

    private TermEdgeTest() {
    }

    public static void main(String[] args) {
        signals();
        signalZero();
        latches();
        inputSignal();
        gates();
        gatesNotMade();
        states();
        gateValues();
        nextAtTheStart();
        steps();
        beginnings();
        badAtTheStart();
        shortestRun();
        badOnlyAtTheEnd();
        orderOfRuns();
        manyRefusedCalls();
        lastCall();
        check.end();
    }

    private static void signals() {
        check.part("SIGNALS are 0 to 15");
        InductionDesk x = Circuits.withGates(10);
        check.due("next(1, 31)", x.next(1, 31), 10);
        check.due("next(1, 0)", x.next(1, 0), 31);
        check.due("next(1, 10)", x.next(1, 10), 0);
        check.due("bad(31)", x.bad(31), 8);
        check.due("bad(0)", x.bad(0), 31);
        check.due("bad(8)", x.bad(8), 0);
        // Gate 15 is latch 2 and the opposite of gate 14, that is latch 1 and the opposite of 13.
        check.due("value(30, 2, 0)", x.value(30, 2, 0), 1);
        check.due("value(31, 2, 0)", x.value(31, 2, 0), 0);
        for (int literal : new int[] {MIN, MIN + 1, -2, -1, 32, 33, MAX - 1, MAX}) {
            refusedLiteral(10, literal);
        }
    }

    private static void signalZero() {
        check.part("Signal 0 is always 0");
        InductionDesk x = Circuits.withGates(10);
        for (int state = 0; state <= 15; state++) {
            for (int input = 0; input <= 1; input++) {
                check.due("value(0, " + state + ", " + input + ")", x.value(0, state, input), 0);
                check.due("value(1, " + state + ", " + input + ")", x.value(1, state, input), 1);
            }
        }
        x.next(1, 1);
        x.next(2, 0);
        check.due("value(0, 3, 1)", x.value(0, 3, 1), 0);
    }

    private static void latches() {
        check.part("Signals 1 to 4 are the LATCHES");
        InductionDesk x = new InductionDesk();
        check.due("next(1, 0)", x.next(1, 0), 2);
        check.due("next(4, 0)", x.next(4, 0), 8);
        check.due("begin(1, 1)", x.begin(1, 1), 0);
        check.due("begin(4, 1)", x.begin(4, 1), 0);
        for (int latch : OUTSIDE_LATCHES) {
            for (int gates : new int[] {0, 10}) {
                Survey.refused(check, () -> Circuits.withGates(gates), "next(" + latch + ", 3)", y -> y.next(latch, 3));
                Survey.refused(check, () -> Circuits.withGates(gates), "begin(" + latch + ", 2)", y -> y.begin(latch, 2));
            }
        }
    }

    private static void inputSignal() {
        check.part("signal 5 is the INPUT");
        InductionDesk x = new InductionDesk();
        for (int state = 0; state <= 15; state++) {
            check.due("value(10, " + state + ", 0)", x.value(10, state, 0), 0);
            check.due("value(10, " + state + ", 1)", x.value(10, state, 1), 1);
            check.due("value(11, " + state + ", 0)", x.value(11, state, 0), 1);
            check.due("value(11, " + state + ", 1)", x.value(11, state, 1), 0);
        }
    }

    private static void gates() {
        check.part("signals 6 to 15 are GATES, at most ten, made one after the other");
        InductionDesk x = new InductionDesk();
        for (int signal = 6; signal <= 15; signal++) {
            check.due("gate(1, 10)", x.gate(1, 10), signal);
            check.due("value of gate " + signal, x.value(2 * signal, 0, 1), 1);
        }
        check.due("gate(1, 10), the eleventh", x.gate(1, 10), -1);
        check.due("gate(1, 10), the twelfth", x.gate(1, 10), -1);
    }

    private static void gatesNotMade() {
        check.part("a literal of a gate that has not been made is refused");
        for (int gates = 0; gates <= 10; gates++) {
            lastLiteralIsTaken(gates);
            int firstNotMade = 12 + 2 * gates;
            refusedLiteral(gates, firstNotMade);
            refusedLiteral(gates, firstNotMade + 1);
            refusedLiteral(gates, firstNotMade + 2);
            refusedLiteral(gates, -1);
            refusedLiteral(gates, 31 + (gates == 10 ? 1 : 0));
            refusedLiteral(gates, MIN);
            refusedLiteral(gates, MAX);
        }
    }

    private static void lastLiteralIsTaken(int gates) {
        int last = 11 + 2 * gates;
        InductionDesk x = Circuits.withGates(gates);
        int inStateOne = 1 - x.value(last - 1, 1, 0);
        check.due("value(" + last + ", 1, 0)", x.value(last, 1, 0), inStateOne);
        check.due("next(4, " + last + ")", x.next(4, last), 6);
        check.due("next(4, 6)", x.next(4, 6), last);
        check.due("bad(" + last + ")", x.bad(last), 8);
        check.due("bad(8)", x.bad(8), last);
        int made = gates == 10 ? -1 : 6 + gates;
        check.due("gate(" + last + ", " + last + ")", x.gate(last, last), made);
    }

    /** Every call that takes a literal refuses this one, in each of its places. */
    private static void refusedLiteral(int gates, int literal) {
        String with = gates + " gates: ";
        Survey.refused(check, () -> Circuits.withGates(gates), with + "gate(" + literal + ", 2)", x -> x.gate(literal, 2));
        Survey.refused(check, () -> Circuits.withGates(gates), with + "gate(2, " + literal + ")", x -> x.gate(2, literal));
        Survey.refused(check, () -> Circuits.withGates(gates), with + "next(1, " + literal + ")", x -> x.next(1, literal));
        Survey.refused(check, () -> Circuits.withGates(gates), with + "next(4, " + literal + ")", x -> x.next(4, literal));
        Survey.refused(check, () -> Circuits.withGates(gates), with + "bad(" + literal + ")", x -> x.bad(literal));
        Survey.refused(check, () -> Circuits.withGates(gates), with + "value(" + literal + ", 0, 0)",
                x -> x.value(literal, 0, 0));
        Survey.refused(check, () -> Circuits.withGates(gates), with + "value(" + literal + ", 15, 1)",
                x -> x.value(literal, 15, 1));
    }

    private static void states() {
        check.part("A STATE is the sum of 2^(l - 1) over the latches with value 1 (0 to 15)");
        InductionDesk x = new InductionDesk();
        for (int latch = 1; latch <= 4; latch++) {
            int alone = 1 << (latch - 1);
            check.due("value of latch " + latch + " in 0", x.value(2 * latch, 0, 0), 0);
            check.due("value of latch " + latch + " in 15", x.value(2 * latch, 15, 0), 1);
            check.due("value of latch " + latch + " alone", x.value(2 * latch, alone, 0), 1);
            check.due("value of latch " + latch + " alone not", x.value(2 * latch, 15 - alone, 0), 0);
        }
        for (int latch = 1; latch <= 4; latch++) {
            x.begin(latch, 1);
        }
        x.bad(1);
        check.due("witness(0), all latches begin 1", x.witness(0), 15);
        for (int latch = 1; latch <= 4; latch++) {
            x.begin(latch, 0);
        }
        check.due("witness(0), all latches begin 0", x.witness(0), 0);
    }

    private static void gateValues() {
        check.part("each gate has the value 1 if both of its literals have the value 1, else 0");
        InductionDesk x = new InductionDesk();
        x.gate(2, 8);   // 6
        x.gate(3, 9);   // 7
        x.gate(2, 2);   // 8: twice the same
        x.gate(2, 3);   // 9: a literal and its opposite
        x.gate(13, 15); // 10: of gates
        int[] states = {0, 1, 8, 9};
        int[] both = {0, 0, 0, 1};
        int[] neither = {1, 0, 0, 0};
        int[] first = {0, 1, 0, 1};
        for (int i = 0; i < states.length; i++) {
            check.due("gate 6 in " + states[i], x.value(12, states[i], 0), both[i]);
            check.due("gate 7 in " + states[i], x.value(14, states[i], 0), neither[i]);
            check.due("gate 8 in " + states[i], x.value(16, states[i], 0), first[i]);
            check.due("gate 9 in " + states[i], x.value(18, states[i], 0), 0);
            check.due("gate 10 in " + states[i], x.value(20, states[i], 0), 1 - both[i] - neither[i]);
        }
    }

    private static void nextAtTheStart() {
        check.part("Every latch has a literal as its NEXT value (itself at the start)");
        InductionDesk x = new InductionDesk();
        for (int latch = 1; latch <= 4; latch++) {
            check.due("next(" + latch + ", itself)", x.next(latch, 2 * latch), 2 * latch);
        }
        // No state ever leads to another: with the input as bad, there is no run of different states.
        InductionDesk still = new InductionDesk();
        still.bad(10);
        check.due("holds(0)", still.holds(0), 0);
        check.due("holds(1)", still.holds(1), 1);
    }

    private static void steps() {
        check.part("a STEP leads to the state in which each latch has the value that its next literal had");
        // Round the ring: each latch takes the one before it, latch 1 takes latch 4.
        InductionDesk ring = Circuits.shiftRegister();
        ring.next(1, 8);
        ring.begin(4, 1);
        ring.bad(6);
        int[] round = {8, 1, 2, 4};
        check.due("depth(6)", ring.depth(6), 3);
        for (int i = 0; i <= 3; i++) {
            check.due("witness(" + i + ")", ring.witness(i), round[i]);
        }
        // The greatest state and the least one follow one another.
        InductionDesk wrap = Circuits.counter();
        wrap.begin(1, 1);
        wrap.begin(2, 1);
        wrap.begin(3, 1);
        wrap.begin(4, 1);
        wrap.bad(9);
        check.due("depth(6), from 15", wrap.depth(6), 1);
        check.due("witness(0), from 15", wrap.witness(0), 15);
        check.due("witness(1), from 15", wrap.witness(1), 0);
    }

    private static void beginnings() {
        check.part("Every latch has a BEGINNING: 0, 1 or either (0 at the start)");
        for (int state = 0; state <= 15; state++) {
            check.due("depth(0), state " + state + " bad", Circuits.badInState(state).depth(0), state == 0 ? 0 : -1);
            for (int combination = 0; combination < 81; combination++) {
                beginningsAllow(state, combination);
            }
        }
    }

    /** The combination has four digits to the base 3, one beginning each. */
    private static void beginningsAllow(int state, int combination) {
        InductionDesk x = Circuits.badInState(state);
        boolean allowed = true;
        int digits = combination;
        String name = "";
        for (int latch = 1; latch <= 4; latch++) {
            int beginning = digits % 3;
            digits /= 3;
            int latchValue = (state >> (latch - 1)) & 1;
            allowed = allowed && (beginning == 2 || beginning == latchValue);
            check.due("begin(" + latch + ", " + beginning + ")", x.begin(latch, beginning), 0);
            name += " " + beginning;
        }
        check.due("depth(6), bad in " + state + ", beginnings" + name, x.depth(6), allowed ? 0 : -1);
        check.due("witness(0), bad in " + state + ", beginnings" + name, x.witness(0), allowed ? state : -1);
    }

    private static void badAtTheStart() {
        check.part("One literal is the BAD one (literal 0 at the start)");
        InductionDesk x = new InductionDesk();
        check.due("holds(0)", x.holds(0), 1);
        check.due("depth(6)", x.depth(6), -1);
        check.due("bad(0)", x.bad(0), 0);
    }

    private static void shortestRun() {
        check.part("A RUN of length n is a row of states s0, ..., sn and input values x0, ..., xn");
        // A run of length 0 has one state and one input value, and takes no step.
        InductionDesk x = new InductionDesk();
        x.next(1, 1);
        x.gate(3, 10);
        x.bad(12);
        check.due("depth(0)", x.depth(0), 0);
        check.due("witness(0)", x.witness(0), 0);
        check.due("input(0)", x.input(0), 1);
        check.due("witness(1)", x.witness(1), -1);
        check.due("input(1)", x.input(1), -1);
    }

    private static void badOnlyAtTheEnd() {
        check.part("BAD if the bad literal is 1 in sn with xn, and 0 in each si with xi for i below n");
        // 0 leads to 1, 1 to 3, 3 to 3; bad in each state with latch 1 at 1.
        InductionDesk x = new InductionDesk();
        x.next(1, 1);
        x.next(2, 2);
        x.bad(2);
        check.due("holds(0)", x.holds(0), 0);
        check.due("holds(1)", x.holds(1), 0);
        check.due("holds(2), through a bad state only", x.holds(2), 1);
        // Now bad with the input 0 only: a run may pass through 1 with the input 1.
        x.gate(2, 11);
        x.bad(12);
        check.due("holds(2), through 1 with the input 1", x.holds(2), 0);
        // State 0 is bad at once with the input 1: the first bad run of length 0 goes before all.
        InductionDesk y = new InductionDesk();
        y.next(1, 1);
        y.gate(3, 11);
        y.bad(13);
        check.due("depth(6)", y.depth(6), 0);
        check.due("input(0)", y.input(0), 1);
    }

    private static void orderOfRuns() {
        check.part("Runs of the same length are ordered by s0, then x0, then x1, and so on");
        // All 16 states begin, all are bad after one step: s0 is the least, and so are x0 and x1.
        InductionDesk x = Circuits.shiftRegister();
        for (int latch = 1; latch <= 4; latch++) {
            x.begin(latch, 2);
        }
        x.bad(1);
        check.due("witness(0), all bad", x.witness(0), 0);
        check.due("input(0), all bad", x.input(0), 0);
        // Latches 1 and 4 both 1 are bad: the first of the states is 9, though 11, 13 and 15 are too.
        x.gate(2, 8);
        x.bad(12);
        check.due("witness(0), 9 and up", x.witness(0), 9);
        // Two of latches 1 to 3 have to be 1: two steps with the input 1, and the last one is free.
        InductionDesk y = Circuits.shiftRegister();
        y.gate(2, 4);   // 6
        y.gate(2, 6);   // 7
        y.gate(4, 6);   // 8
        y.gate(13, 15); // 9
        y.gate(18, 17); // 10: 0 if two of the three are 1
        y.bad(21);
        check.due("depth(6), two in a row", y.depth(6), 2);
        check.due("input(0), two in a row", y.input(0), 1);
        check.due("input(1), two in a row", y.input(1), 1);
        check.due("input(2), two in a row", y.input(2), 0);
        y.gate(8, 21);  // 11: with latch 4, a step later
        y.begin(2, 1);
        y.bad(22);
        // Latch 4 takes the 1 that latch 2 begins with, after two steps; x0 and x1 are then both 1.
        check.due("depth(6), with latch 4", y.depth(6), 2);
        check.due("input(0), with latch 4", y.input(0), 1);
        check.due("input(1), with latch 4", y.input(1), 1);
        check.due("input(2), with latch 4", y.input(2), 0);
        y.begin(2, 0);
        y.begin(1, 1);
        // Now it takes three steps, and of x0, x1 and x2 two are 1: the least such row is 0, 1, 1.
        check.due("depth(6), a step later", y.depth(6), 3);
        check.due("input(0), a step later", y.input(0), 0);
        check.due("input(1), a step later", y.input(1), 1);
        check.due("input(2), a step later", y.input(2), 1);
        check.due("input(3), a step later", y.input(3), 0);
    }

    private static void manyRefusedCalls() {
        check.part("A call with an argument that is not as said is refused: it answers -1 and changes nothing");
        for (int gates = 0; gates <= 10; gates += 5) {
            int circuit = gates;
            Survey.refused(check, () -> Circuits.withGates(circuit), "each wrong call once", x -> {
                int sum = x.gate(32, 32) + x.next(5, 32) + x.next(0, -1) + x.begin(5, 3) + x.begin(0, -1)
                        + x.bad(32) + x.value(32, 16, 5) + x.value(-1, -1, -1) + x.depth(7) + x.holds(-1)
                        + x.witness(7) + x.input(-1);
                return sum / 12;
            });
        }
        // A refused call does not stand in the way of the same call when it is as said later on.
        InductionDesk x = new InductionDesk();
        check.due("bad(12)", x.bad(12), -1);
        check.due("next(1, 13)", x.next(1, 13), -1);
        check.due("gate(1, 1)", x.gate(1, 1), 6);
        check.due("bad(12), made now", x.bad(12), 0);
        check.due("next(1, 13), made now", x.next(1, 13), 2);
    }

    private static void lastCall() {
        check.part("An object is used for at most 512 calls");
        check.due("gate", afterCalls(511).gate(8, 8), 6);
        check.due("next", afterCalls(511).next(1, 0), 10);
        check.due("begin", afterCalls(511).begin(1, 0), 0);
        check.due("bad", afterCalls(511).bad(0), 8);
        check.due("value", afterCalls(511).value(8, 8, 0), 1);
        check.due("depth", afterCalls(511).depth(6), 4);
        check.due("holds", afterCalls(511).holds(4), 0);
        check.due("proof", afterCalls(511).proof(), -1);
        check.due("witness", afterCalls(511).witness(4), 8);
        check.due("input", afterCalls(511).input(0), 1);
    }

    /** A row of latches with latch 4 as the bad one, after as many calls as said. */
    private static InductionDesk afterCalls(int calls) {
        InductionDesk x = Circuits.shiftRegister();
        x.bad(8);
        for (int done = 5; done < calls; done++) {
            int latch = 1 + done % 4;
            switch (done % 6) {
                case 0 -> x.begin(latch, 0);
                case 1 -> x.depth(6);
                case 2 -> x.gate(12, 12);
                case 3 -> x.holds(3);
                case 4 -> x.bad(8);
                default -> x.next(latch, latch == 1 ? 10 : 2 * latch - 2);
            }
        }
        return x;
    }
}
