/**
 * The edges that promises 7 to 11 name, each in a test of its own. Most use the circuit that counts
 * in latches 1 to 3 and is bad, with latch 4 at 1, from a given count on: see Circuits.countBadFrom.
 */
public final class SearchEdgeTest {
    private static final int MIN = Integer.MIN_VALUE;
    private static final int MAX = Integer.MAX_VALUE;
    private static final int[] OUTSIDE_LENGTHS = {MIN, MIN + 1, -2, -1, 7, 8, MAX - 1, MAX};
    private static final Check check = new Check();

    private SearchEdgeTest() {
    }

    public static void main(String[] args) {
        depthLeast();
        depthNone();
        depthLimitOutside();
        holdsFromTheBeginningOrNot();
        holdsDifferentStates();
        holdsOutside();
        proofLeast();
        proofNoBadRunBelow();
        proofNone();
        witnessStates();
        witnessOfLengthDepthOfSix();
        witnessNone();
        witnessNoStateI();
        inputValues();
        inputNone();
        check.end();
    }

    private static void depthLeast() {
        check.part("7: The least n from 0 to limit such that there is a bad run of length n from the beginning");
        for (int first = 0; first <= 7; first++) {
            InductionDesk x = Circuits.countBadFrom(first, 1);
            InductionDesk withInput = Circuits.countBadWithInputFrom(first, 1);
            for (int limit = 0; limit <= 6; limit++) {
                int want = first <= limit ? first : -1;
                check.due("depth(" + limit + "), bad from " + first, x.depth(limit), want);
                check.due("depth(" + limit + "), with the input, bad from " + first, withInput.depth(limit), want);
            }
        }
        // From all counts at once: the nearest of them tells.
        for (int first = 1; first <= 7; first++) {
            InductionDesk x = Circuits.countBadFrom(first, 1);
            x.begin(1, 2);
            check.due("depth(6), from 0 and 1, bad from " + first, x.depth(6), first - 1);
        }
    }

    private static void depthNone() {
        check.part("7: -1 also if there is none");
        for (int limit = 0; limit <= 6; limit++) {
            check.due("depth(" + limit + "), nothing bad", new InductionDesk().depth(limit), -1);
            // There are bad runs, but not from the beginning.
            check.due("depth(" + limit + "), latch 4 at 0", Circuits.countBadFrom(0, 0).depth(limit), -1);
            check.due("depth(" + limit + "), latch 4 at 0", Circuits.countBadFrom(6, 0).depth(limit), -1);
            // There is one from the beginning, of length 7.
            check.due("depth(" + limit + "), seven steps", Circuits.countBadFrom(7, 1).depth(limit), -1);
            check.due("depth(" + limit + "), latch 4 either", Circuits.countBadFrom(7, 2).depth(limit), -1);
        }
    }

    private static void depthLimitOutside() {
        check.part("7: -1 also if limit is not from 0 to 6");
        for (int limit : OUTSIDE_LENGTHS) {
            String name = "depth(" + limit + ")";
            for (int first = 0; first <= 7; first++) {
                int count = first;
                Survey.refused(check, () -> Circuits.countBadFrom(count, 1), name, x -> x.depth(limit));
            }
            Survey.refused(check, InductionDesk::new, name, x -> x.depth(limit));
        }
    }

    private static void holdsFromTheBeginningOrNot() {
        check.part("8: 1 if there is no bad run of length k, from the beginning or not; else 0");
        for (int first = 0; first <= 7; first++) {
            for (int beginning = 0; beginning <= 2; beginning++) {
                InductionDesk x = Circuits.countBadFrom(first, beginning);
                for (int k = 0; k <= 6; k++) {
                    check.due("holds(" + k + "), bad from " + first + ", latch 4 begins " + beginning,
                            x.holds(k), k <= first ? 0 : 1);
                }
            }
        }
        for (int k = 0; k <= 6; k++) {
            check.due("holds(" + k + "), nothing bad", new InductionDesk().holds(k), 1);
        }
    }

    private static void holdsDifferentStates() {
        check.part("8: all of whose states are different");
        // Two latches count round: a run of three steps sees four states, the fourth step the first again.
        InductionDesk round = new InductionDesk();
        round.next(1, 3);
        round.gate(2, 4);
        round.gate(3, 5);
        round.gate(13, 15);
        round.next(2, 16);
        round.bad(10);
        // Only s0 = s1 can make it longer: state 0 waits for the input.
        InductionDesk waits = new InductionDesk();
        waits.next(1, 10);
        waits.bad(2);
        // Only s(n-1) = sn can: 0 leads to 1, 1 stays, and is bad with the input 1.
        InductionDesk stays = new InductionDesk();
        stays.next(1, 1);
        stays.gate(2, 10);
        stays.bad(12);
        for (int k = 0; k <= 6; k++) {
            check.due("holds(" + k + "), round", round.holds(k), k <= 3 ? 0 : 1);
            check.due("holds(" + k + "), waits", waits.holds(k), k <= 1 ? 0 : 1);
            check.due("holds(" + k + "), stays", stays.holds(k), k <= 1 ? 0 : 1);
            // Seven different states, the most that can be asked for.
            check.due("holds(" + k + "), counter", countsToFifteen().holds(k), 0);
        }
        // Depth does not ask for different states, but the least run has them.
        check.due("depth(6), waits", waits.depth(6), 1);
    }

    private static InductionDesk countsToFifteen() {
        InductionDesk x = Circuits.counter();
        x.bad(24);
        return x;
    }

    private static void holdsOutside() {
        check.part("8: -1 also if k is not from 0 to 6");
        for (int k : OUTSIDE_LENGTHS) {
            String name = "holds(" + k + ")";
            Survey.refused(check, InductionDesk::new, name, x -> x.holds(k));
            Survey.refused(check, SearchEdgeTest::countsToFifteen, name, x -> x.holds(k));
            Survey.refused(check, () -> Circuits.countBadFrom(3, 1), name, x -> x.holds(k));
        }
    }

    private static void proofLeast() {
        check.part("9: The least k from 0 to 6 such that holds(k) = 1");
        check.due("proof(), nothing bad", new InductionDesk().proof(), 0);
        for (int first = 0; first <= 5; first++) {
            InductionDesk x = Circuits.countBadFrom(first, 0);
            check.due("proof(), bad from " + first, x.proof(), first + 1);
        }
    }

    private static void proofNoBadRunBelow() {
        check.part("9: and there is no bad run from the beginning of a length below k");
        for (int first = 0; first <= 5; first++) {
            for (int beginning = 1; beginning <= 2; beginning++) {
                InductionDesk x = Circuits.countBadFrom(first, beginning);
                check.due("holds(" + (first + 1) + ")", x.holds(first + 1), 1);
                check.due("depth(6)", x.depth(6), first);
                check.due("proof(), bad from " + first + ", latch 4 begins " + beginning, x.proof(), -1);
            }
        }
    }

    private static void proofNone() {
        check.part("9: -1 if there is none");
        // It would take k = 7 and k = 8: no bad run from the beginning, but holds(6) = 0.
        for (int first = 6; first <= 7; first++) {
            InductionDesk x = Circuits.countBadFrom(first, 0);
            check.due("holds(6), bad from " + first, x.holds(6), 0);
            check.due("depth(6), bad from " + first, x.depth(6), -1);
            check.due("proof(), bad from " + first, x.proof(), -1);
        }
        // The bad run from the beginning has the lengths 6 and 7.
        check.due("proof(), six steps", Circuits.countBadFrom(6, 1).proof(), -1);
        check.due("proof(), seven steps", Circuits.countBadFrom(7, 1).proof(), -1);
        InductionDesk all = new InductionDesk();
        all.bad(1);
        check.due("proof(), all bad", all.proof(), -1);
    }

    private static void witnessStates() {
        check.part("10: State i of the first bad run from the beginning of length depth(6)");
        for (int first = 0; first <= 6; first++) {
            InductionDesk x = Circuits.countBadFrom(first, 1);
            for (int i = 0; i <= first; i++) {
                check.due("witness(" + i + "), bad from " + first, x.witness(i), 8 + i);
            }
        }
        // 15, the greatest state, at the end and at the start.
        InductionDesk toFifteen = countsToFifteen();
        toFifteen.begin(4, 1);
        toFifteen.begin(1, 1);
        check.due("witness(0), from 9 to 15", toFifteen.witness(0), 9);
        check.due("witness(6), from 9 to 15", toFifteen.witness(6), 15);
        toFifteen.begin(2, 1);
        toFifteen.begin(3, 1);
        check.due("witness(0), at 15", toFifteen.witness(0), 15);
    }

    private static void witnessOfLengthDepthOfSix() {
        check.part("10: of length depth(6), whatever depth was asked for last");
        InductionDesk x = Circuits.countBadFrom(6, 1);
        for (int limit = -1; limit <= 7; limit++) {
            check.due("depth(" + limit + ")", x.depth(limit), limit == 6 ? 6 : -1);
            check.due("witness(6) after depth(" + limit + ")", x.witness(6), 14);
            check.due("input(6) after depth(" + limit + ")", x.input(6), 0);
        }
        // The run is that of the circuit as it is now.
        x.begin(4, 0);
        check.due("witness(0), latch 4 at 0", x.witness(0), -1);
        x.begin(4, 2);
        check.due("witness(0), latch 4 either", x.witness(0), 8);
        x.bad(2);
        check.due("witness(1), latch 1 bad", x.witness(1), 1);
        check.due("witness(2), latch 1 bad", x.witness(2), -1);
    }

    private static void witnessNone() {
        check.part("10: -1 also if there is none");
        for (int i : new int[] {MIN, -1, 0, 1, 6, 7, MAX}) {
            String name = "witness(" + i + ")";
            Survey.refused(check, InductionDesk::new, name, x -> x.witness(i));
            Survey.refused(check, () -> Circuits.countBadFrom(3, 0), name, x -> x.witness(i));
            Survey.refused(check, () -> Circuits.countBadFrom(7, 1), name, x -> x.witness(i));
        }
    }

    private static void witnessNoStateI() {
        check.part("10: -1 also if it has no state i");
        for (int first = 0; first <= 6; first++) {
            int count = first;
            for (int i : new int[] {MIN, MIN + 1, -2, -1, first + 1, first + 2, 7, 8, 16, 32, MAX - 1, MAX}) {
                Survey.refused(check, () -> Circuits.countBadFrom(count, 1), "witness(" + i + "), bad from " + first,
                        x -> x.witness(i));
            }
        }
    }

    private static void inputValues() {
        check.part("11: The input value i of the same run");
        for (int first = 0; first <= 6; first++) {
            InductionDesk x = Circuits.countBadFrom(first, 1);
            InductionDesk last = Circuits.countBadWithInputFrom(first, 1);
            for (int i = 0; i <= first; i++) {
                check.due("input(" + i + "), bad from " + first, x.input(i), 0);
                check.due("input(" + i + "), with the input, bad from " + first, last.input(i), i == first ? 1 : 0);
                check.due("witness(" + i + "), with the input, bad from " + first, last.witness(i), 8 + i);
            }
        }
        // The first of many input values is the one that counts, and after it the least are taken.
        InductionDesk row = Circuits.shiftRegister();
        row.bad(8);
        int[] inputs = {1, 0, 0, 0, 0};
        for (int i = 0; i <= 4; i++) {
            check.due("input(" + i + "), row of latches", row.input(i), inputs[i]);
        }
    }

    private static void inputNone() {
        check.part("11: -1 also if there is none");
        for (int i : new int[] {MIN, -1, 0, 1, 6, 7, MAX}) {
            String name = "input(" + i + ")";
            Survey.refused(check, InductionDesk::new, name, x -> x.input(i));
            Survey.refused(check, () -> Circuits.countBadWithInputFrom(3, 0), name, x -> x.input(i));
            Survey.refused(check, () -> Circuits.countBadFrom(7, 1), name, x -> x.input(i));
        }
        for (int first = 0; first <= 6; first++) {
            int count = first;
            for (int i : new int[] {MIN, MIN + 1, -2, -1, first + 1, first + 2, 7, 8, 31, 32, 33, MAX - 1, MAX}) {
                Survey.refused(check, () -> Circuits.countBadWithInputFrom(count, 1),
                        "input(" + i + "), bad from " + first, x -> x.input(i));
            }
        }
    }
}
