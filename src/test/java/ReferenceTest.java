/**
 * Long rows of calls on many objects, each answer compared with the reference. The rows come from
 * a fixed sequence of numbers, so every run of this test makes the same calls.
 */
public final class ReferenceTest {
    private static final int OBJECTS = 1500;
    private static final int CHANGES = 40;
    private static final int[] ODD_ARGUMENTS = {
        -1, -2, 7, 12, 16, 31, 32, 33, 64, 1000, Integer.MAX_VALUE, Integer.MIN_VALUE
    };

    private static final Check check = new Check();
    private static final int[] depthsSeen = new int[8];
    private static final int[] proofsSeen = new int[8];

    private static long sequence = 20261115L;
    private static InductionDesk desk;
    private static Reference reference;

    private ReferenceTest() {
    }

    public static void main(String[] args) {
        for (int object = 0; object < OBJECTS; object++) {
            check.part("object " + object);
            desk = new InductionDesk();
            reference = new Reference();
            buildCircuit();
            compareAll();
            // A look at everything is at most 28 calls, so an object never comes to its 512th.
            for (int change = 0; change < CHANGES; change++) {
                changeOne();
                if (change % 4 == 0) {
                    compareAll();
                }
            }
        }
        everyOutcomeWasSeen();
        check.end();
    }

    private static int below(int bound) {
        sequence = sequence * 6364136223846793005L + 1442695040888963407L;
        return (int) ((sequence >>> 33) % bound);
    }

    private static int oddArgument() {
        return ODD_ARGUMENTS[below(ODD_ARGUMENTS.length)];
    }

    private static int literal(int signals) {
        return below(30) == 0 ? oddArgument() : 2 + below(2 * signals - 2);
    }

    private static void buildCircuit() {
        int gates = below(11);
        for (int made = 0; made < gates; made++) {
            compareGate(2 + below(2 * (6 + made) - 2), 2 + below(2 * (6 + made) - 2));
        }
        for (int latch = 1; latch <= 4; latch++) {
            compareNext(latch, 2 + below(2 * (6 + gates) - 2));
            compareBegin(latch, below(3) == 0 ? below(3) : 0);
        }
        compareBad(gates == 0 ? 2 + below(10) : 12 + below(2 * gates));
    }

    private static void changeOne() {
        int latch = below(20) == 0 ? oddArgument() : 1 + below(4);
        switch (below(5)) {
            case 0 -> compareGate(literal(14), literal(14));
            case 1 -> compareNext(latch, literal(16));
            case 2 -> compareBegin(latch, below(20) == 0 ? oddArgument() : below(3));
            case 3 -> compareBad(literal(16));
            default -> compareValue(literal(16), below(20) == 0 ? oddArgument() : below(16), below(7) - 3);
        }
    }

    private static void compareGate(int a, int b) {
        check.due("gate(" + a + ", " + b + ")", desk.gate(a, b), reference.gate(a, b));
    }

    private static void compareNext(int latch, int literal) {
        check.due("next(" + latch + ", " + literal + ")", desk.next(latch, literal), reference.next(latch, literal));
    }

    private static void compareBegin(int latch, int value) {
        check.due("begin(" + latch + ", " + value + ")", desk.begin(latch, value), reference.begin(latch, value));
    }

    private static void compareBad(int literal) {
        check.due("bad(" + literal + ")", desk.bad(literal), reference.bad(literal));
    }

    private static void compareValue(int literal, int state, int input) {
        check.due("value(" + literal + ", " + state + ", " + input + ")",
                desk.value(literal, state, input), reference.value(literal, state, input));
    }

    private static void compareAll() {
        int depth = reference.depth(6);
        int proof = reference.proof();
        depthsSeen[depth + 1]++;
        proofsSeen[proof + 1]++;
        check.due("depth(6)", desk.depth(6), depth);
        check.due("proof()", desk.proof(), proof);
        int limit = below(10) - 1;
        check.due("depth(" + limit + ")", desk.depth(limit), reference.depth(limit));
        for (int k = -1; k <= 7; k++) {
            check.due("holds(" + k + ")", desk.holds(k), reference.holds(k));
        }
        for (int i = 0; i <= depth + 1; i++) {
            check.due("witness(" + i + ")", desk.witness(i), reference.witness(i));
            check.due("input(" + i + ")", desk.input(i), reference.input(i));
        }
    }

    /** Guards the test itself: circuits that never come near an edge would compare nothing of worth. */
    private static void everyOutcomeWasSeen() {
        check.part("outcomes");
        for (int outcome = -1; outcome <= 6; outcome++) {
            check.due("depth " + outcome + " seen", depthsSeen[outcome + 1] > 0 ? 1 : 0, 1);
            check.due("proof " + outcome + " seen", proofsSeen[outcome + 1] > 0 ? 1 : 0, 1);
        }
        System.out.println("depths seen, -1 to 6: " + java.util.Arrays.toString(depthsSeen));
        System.out.println("proofs seen, -1 to 6: " + java.util.Arrays.toString(proofsSeen));
    }
}
