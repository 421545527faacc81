/** The edges that promises 1 to 6 name, each in a test of its own. */
public final class CallEdgeTest {
    private static final int MIN = Integer.MIN_VALUE;
    private static final int MAX = Integer.MAX_VALUE;
    private static final Check check = new Check();

    private CallEdgeTest() {
    }

    public static void main(String[] args) {
        noGate();
        gateAnswersItsSignal();
        gateWhenTenStand();
        nextAnswersTheOneBefore();
        nextRefused();
        beginValues();
        beginValuesOutside();
        badAnswersTheOneBefore();
        badRefused();
        valueTakesTheLowestBitOfInput();
        valueStates();
        valueStatesOutside();
        check.end();
    }

    private static void noGate() {
        check.part("1: No gate; as said above");
        for (int literal = 12; literal <= 31; literal++) {
            check.due("value(" + literal + ", 0, 0)", new InductionDesk().value(literal, 0, 0), -1);
        }
        InductionDesk x = new InductionDesk();
        check.due("value(11, 0, 0)", x.value(11, 0, 0), 1);
        check.due("bad(0)", x.bad(0), 0);
        for (int latch = 1; latch <= 4; latch++) {
            check.due("next(" + latch + ", 0)", x.next(latch, 0), 2 * latch);
        }
        check.due("gate(0, 0)", x.gate(0, 0), 6);
        InductionDesk begins = new InductionDesk();
        begins.bad(1);
        check.due("witness(0)", begins.witness(0), 0);
    }

    private static void gateAnswersItsSignal() {
        check.part("2: Makes a gate of the two literals. Answers its signal");
        InductionDesk x = new InductionDesk();
        check.due("gate(0, 11), the least and the greatest literal", x.gate(0, 11), 6);
        check.due("gate(11, 0)", x.gate(11, 0), 7);
        check.due("gate(1, 11)", x.gate(1, 11), 8);
        check.due("value(16, 0, 0)", x.value(16, 0, 0), 1);
        check.due("value(12, 0, 0)", x.value(12, 0, 0), 0);
        // A gate is not made when its literals are looked at: it can't have itself as a literal.
        for (int gates = 0; gates <= 9; gates++) {
            int itself = 12 + 2 * gates;
            int circuit = gates;
            Survey.refused(check, () -> Circuits.withGates(circuit), "gate of itself and itself", y -> y.gate(itself, itself));
            Survey.refused(check, () -> Circuits.withGates(circuit), "gate of 1 and its opposite", y -> y.gate(1, itself + 1));
        }
    }

    private static void gateWhenTenStand() {
        check.part("2: -1 also if there are ten");
        InductionDesk nine = Circuits.withGates(9);
        check.due("gate(29, 29), the tenth", nine.gate(29, 29), 15);
        check.due("gate(31, 31), the eleventh", nine.gate(31, 31), -1);
        Survey.refused(check, () -> Circuits.withGates(10), "gate(0, 0)", x -> x.gate(0, 0));
        Survey.refused(check, () -> Circuits.withGates(10), "gate(1, 1)", x -> x.gate(1, 1));
        Survey.refused(check, () -> Circuits.withGates(10), "gate(31, 31)", x -> x.gate(31, 31));
        Survey.refused(check, () -> Circuits.withGates(10), "gate(32, 32)", x -> x.gate(32, 32));
        Survey.refused(check, () -> Circuits.withGates(10), "gate(MIN, MAX)", x -> x.gate(MIN, MAX));
        Survey.refused(check, () -> Circuits.withGates(10), "gate(1, 1) three times", x -> {
            int sum = x.gate(1, 1) + x.gate(1, 1) + x.gate(1, 1);
            return sum / 3;
        });
    }

    private static void nextAnswersTheOneBefore() {
        check.part("3: The latch's next literal becomes literal. Answers the one before");
        InductionDesk x = Circuits.withGates(10);
        int[] before = {0, 10, 2, 4, 6};
        for (int latch = 1; latch <= 4; latch++) {
            check.due("next(" + latch + ", 0)", x.next(latch, 0), before[latch]);
            check.due("next(" + latch + ", 31)", x.next(latch, 31), 0);
            check.due("next(" + latch + ", 31) again", x.next(latch, 31), 31);
            check.due("next(" + latch + ", 0) again", x.next(latch, 0), 31);
        }
    }

    private static void nextRefused() {
        check.part("3: -1");
        for (int latch : new int[] {MIN, -1, 0, 5, 16, MAX}) {
            for (int literal : new int[] {MIN, -1, 0, 31, 32, MAX}) {
                Survey.refused(check, () -> Circuits.withGates(10), "next(" + latch + ", " + literal + ")",
                        x -> x.next(latch, literal));
            }
        }
        for (int latch = 1; latch <= 4; latch++) {
            int taken = latch;
            for (int literal : new int[] {MIN, -1, 32, MAX}) {
                Survey.refused(check, () -> Circuits.withGates(10), "next(" + latch + ", " + literal + ")",
                        x -> x.next(taken, literal));
            }
        }
    }

    private static void beginValues() {
        check.part("4: The latch's beginning becomes 0, 1 or either (value 0, 1 or 2). Answers 0");
        for (int latch = 1; latch <= 4; latch++) {
            InductionDesk x = new InductionDesk();
            for (int round = 0; round <= 1; round++) {
                beginsWith(x, latch, 0, 1, 0);
                beginsWith(x, latch, 1, 0, 1);
                beginsWith(x, latch, 2, 1, 1);
                beginsWith(x, latch, 1, 0, 1);
            }
        }
    }

    private static void beginsWith(InductionDesk x, int latch, int value, int mayBeZero, int mayBeOne) {
        String name = "begin(" + latch + ", " + value + ")";
        check.due(name, x.begin(latch, value), 0);
        x.bad(2 * latch);
        check.due(name + ", depth(6) of a 1", x.depth(6), mayBeOne - 1);
        x.bad(2 * latch + 1);
        check.due(name + ", depth(6) of a 0", x.depth(6), mayBeZero - 1);
    }

    private static void beginValuesOutside() {
        check.part("4: -1 also if value is not from 0 to 2");
        for (int value : new int[] {MIN, MIN + 1, -2, -1, 3, 4, MAX - 1, MAX}) {
            for (int latch = 1; latch <= 4; latch++) {
                int taken = latch;
                String name = "begin(" + latch + ", " + value + ")";
                Survey.refused(check, () -> Circuits.withGates(0), name, x -> x.begin(taken, value));
                Survey.refused(check, () -> Circuits.countBadFrom(5, 1), name, x -> x.begin(taken, value));
            }
            for (int latch : new int[] {MIN, -1, 0, 5, MAX}) {
                Survey.refused(check, () -> Circuits.withGates(0), "begin(" + latch + ", " + value + ")",
                        x -> x.begin(latch, value));
            }
        }
    }

    private static void badAnswersTheOneBefore() {
        check.part("5: The literal becomes the bad one. Answers the bad one before");
        InductionDesk x = new InductionDesk();
        check.due("bad(11), the greatest without a gate", x.bad(11), 0);
        check.due("input(0), bad 11", x.input(0), 0);
        check.due("bad(11) again", x.bad(11), 11);
        check.due("bad(0)", x.bad(0), 11);
        check.due("depth(6), bad 0", x.depth(6), -1);
        check.due("bad(1)", x.bad(1), 0);
        check.due("depth(6), bad 1", x.depth(6), 0);
        InductionDesk full = new InductionDesk();
        for (int made = 0; made < 10; made++) {
            full.gate(1, 10);
        }
        check.due("bad(31), the greatest", full.bad(31), 0);
        check.due("input(0), bad 31", full.input(0), 0);
        check.due("bad(30)", full.bad(30), 31);
        check.due("input(0), bad 30", full.input(0), 1);
        check.due("bad(0)", full.bad(0), 30);
    }

    private static void badRefused() {
        check.part("5: -1");
        for (int literal : new int[] {MIN, MIN + 1, -2, -1, 12, 13, 31, 32, MAX - 1, MAX}) {
            Survey.refused(check, InductionDesk::new, "bad(" + literal + ")", x -> x.bad(literal));
            Survey.refused(check, () -> Circuits.withGates(0), "bad(" + literal + ")", x -> x.bad(literal));
        }
        for (int literal : new int[] {MIN, -1, 32, 33, MAX}) {
            Survey.refused(check, () -> Circuits.withGates(10), "bad(" + literal + ")", x -> x.bad(literal));
        }
    }

    private static void valueTakesTheLowestBitOfInput() {
        check.part("6: with the input value input & 1");
        InductionDesk x = new InductionDesk();
        x.gate(10, 2);
        int[] even = {MIN, MIN + 2, -4, -2, 0, 2, 4, 16, 32, 1 << 30, MAX - 1};
        int[] odd = {MIN + 1, -3, -1, 1, 3, 5, 15, 17, 33, (1 << 30) + 1, MAX};
        for (int i = 0; i < even.length; i++) {
            check.due("value(10, 1, " + even[i] + ")", x.value(10, 1, even[i]), 0);
            check.due("value(11, 1, " + even[i] + ")", x.value(11, 1, even[i]), 1);
            check.due("value(12, 1, " + even[i] + ")", x.value(12, 1, even[i]), 0);
            check.due("value(10, 1, " + odd[i] + ")", x.value(10, 1, odd[i]), 1);
            check.due("value(11, 1, " + odd[i] + ")", x.value(11, 1, odd[i]), 0);
            check.due("value(12, 1, " + odd[i] + ")", x.value(12, 1, odd[i]), 1);
            check.due("value(12, 0, " + odd[i] + ")", x.value(12, 0, odd[i]), 0);
            // The other bits of input touch no other signal.
            check.due("value(0, 0, " + odd[i] + ")", x.value(0, 0, odd[i]), 0);
            check.due("value(2, 0, " + odd[i] + ")", x.value(2, 0, odd[i]), 0);
            check.due("value(8, 0, " + even[i] + ")", x.value(8, 0, even[i]), 0);
            check.due("value(9, 15, " + even[i] + ")", x.value(9, 15, even[i]), 0);
        }
    }

    private static void valueStates() {
        check.part("6: The value of the literal in the state");
        InductionDesk x = new InductionDesk();
        x.gate(2, 8);
        check.due("value(8, 0, 0)", x.value(8, 0, 0), 0);
        check.due("value(9, 0, 0)", x.value(9, 0, 0), 1);
        check.due("value(12, 0, 0)", x.value(12, 0, 0), 0);
        check.due("value(8, 15, 0)", x.value(8, 15, 0), 1);
        check.due("value(9, 15, 0)", x.value(9, 15, 0), 0);
        check.due("value(12, 15, 0)", x.value(12, 15, 0), 1);
        check.due("value(13, 15, 0)", x.value(13, 15, 0), 0);
        // Any state may be asked for, whether a run comes into it or not, and asking takes no step.
        check.due("depth(6)", x.depth(6), -1);
        check.due("value(12, 9, 0)", x.value(12, 9, 0), 1);
        check.due("value(12, 8, 0)", x.value(12, 8, 0), 0);
    }

    private static void valueStatesOutside() {
        check.part("6: -1 also if state is not from 0 to 15");
        for (int state : new int[] {MIN, MIN + 1, -16, -1, 16, 17, 31, 32, MAX - 1, MAX}) {
            for (int literal : new int[] {0, 1, 2, 8, 9, 10, 11, 12, 31}) {
                Survey.refused(check, () -> Circuits.withGates(10), "value(" + literal + ", " + state + ", 1)",
                        x -> x.value(literal, state, 1));
            }
            for (int literal : new int[] {MIN, -1, 12, MAX}) {
                Survey.refused(check, InductionDesk::new, "value(" + literal + ", " + state + ", 0)",
                        x -> x.value(literal, state, 0));
            }
        }
    }
}
