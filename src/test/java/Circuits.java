/** Circuits that more than one test builds. */
final class Circuits {
    private Circuits() {
    }

    /** A row of latches: 1 takes the input, 2 takes latch 1, 3 takes latch 2, 4 takes latch 3. */
    static InductionDesk shiftRegister() {
        InductionDesk x = new InductionDesk();
        x.next(1, 10);
        x.next(2, 2);
        x.next(3, 4);
        x.next(4, 6);
        return x;
    }

    /** A row of latches with three kinds of beginning, and as many gates as said; bad is latch 4. */
    static InductionDesk withGates(int gates) {
        InductionDesk x = shiftRegister();
        x.begin(1, 1);
        x.begin(2, 2);
        x.bad(8);
        for (int made = 0; made < gates; made++) {
            int oppositeOfLast = 2 * (5 + made) + 1;
            int oneOfTheLatches = 2 + 2 * (made % 4);
            x.gate(oppositeOfLast, oneOfTheLatches);
        }
        return x;
    }

    /** Counts up by one with each step, from 15 to 0; gates 6 to 14. */
    static InductionDesk counter() {
        InductionDesk x = countingThreeLatches();
        x.gate(18, 8);  // 12: all four
        x.gate(19, 9);  // 13
        x.gate(25, 27); // 14: latch 4 unlike gate 9
        x.next(4, 28);
        return x;
    }

    /** Latches 1 to 3 count from 0 to 7 and round to 0, latch 4 stays as it is; gates 6 to 11. */
    private static InductionDesk countingThreeLatches() {
        InductionDesk x = new InductionDesk();
        x.next(1, 3);
        x.gate(2, 4);   // 6: latches 1 and 2
        x.gate(3, 5);   // 7: neither
        x.gate(13, 15); // 8: one of the two
        x.next(2, 16);
        x.gate(12, 6);  // 9: latches 1, 2 and 3
        x.gate(13, 7);  // 10
        x.gate(19, 21); // 11: latch 3 unlike gate 6
        x.next(3, 22);
        return x;
    }

    /**
     * Latches 1 to 3 count from 0 to 7 and round to 0; latch 4 stays as it begins. Bad: latch 4 is
     * 1 and the count is first or more. So the bad runs have the lengths 0 to first, and the one
     * from state 8 has the length first.
     */
    static InductionDesk countBadFrom(int first, int beginningOfLatch4) {
        InductionDesk x = countingThreeLatches();
        x.begin(4, beginningOfLatch4);
        switch (first) {
            case 0 -> x.gate(1, 1);
            case 1 -> notBoth(x, 14, 7);
            case 2 -> notBoth(x, 5, 7);
            case 3 -> notBoth(x, 13, 7);
            case 4 -> x.gate(6, 6);
            case 5 -> x.gate(6, 15);
            case 6 -> x.gate(4, 6);
            default -> x.gate(18, 18);
        }
        int fromFirst = first >= 1 && first <= 3 ? 26 : 24;
        int gate = x.gate(fromFirst, 8);
        x.bad(2 * gate);
        return x;
    }

    /** The same, and a state is bad with the input 1 only. */
    static InductionDesk countBadWithInputFrom(int first, int beginningOfLatch4) {
        InductionDesk x = countBadFrom(first, beginningOfLatch4);
        int withoutInput = x.bad(0);
        int gate = x.gate(withoutInput, 10);
        x.bad(2 * gate);
        return x;
    }

    private static void notBoth(InductionDesk x, int a, int b) {
        x.gate(a, b);   // 12
        x.gate(25, 25); // 13: its opposite
    }

    /** Bad is the one state said, with either input value; nothing ever steps. Gates 6 to 8. */
    static InductionDesk badInState(int state) {
        InductionDesk x = new InductionDesk();
        x.gate(latchIn(1, state), latchIn(2, state));
        x.gate(latchIn(3, state), latchIn(4, state));
        x.gate(12, 14);
        x.bad(16);
        return x;
    }

    /** The literal of the latch that is 1 in the state. */
    private static int latchIn(int latch, int state) {
        int latchValue = (state >> (latch - 1)) & 1;
        return 2 * latch + 1 - latchValue;
    }
}
