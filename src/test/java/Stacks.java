import java.util.function.IntPredicate;

/** Objects that the tests start from, and what their formulas are for an assignment. */
final class Stacks {
    static final int VARIABLES = 6;

    private Stacks() {
    }

    static boolean bit(int a, int v) {
        return ((a >> v) & 1) == 1;
    }

    static int with(int a, int v, boolean value) {
        return value ? a | (1 << v) : a & ~(1 << v);
    }

    /** That many formulas, no two of them equal: the variables, then their contraries. */
    static RingProver of(int formulas) {
        RingProver x = new RingProver();
        for (int i = 0; i < formulas; i++) {
            x.variable(i % VARIABLES);
            if (i >= VARIABLES) {
                x.not();
            }
        }
        return x;
    }

    /** What formula number k of that many is. */
    static IntPredicate formulaOf(int formulas, int k) {
        int i = formulas - 1 - k;
        return a -> bit(a, i % VARIABLES) == i < VARIABLES;
    }

    static RingProver allJoined(int sort) {
        RingProver x = new RingProver();
        x.variable(0);
        for (int v = 1; v < VARIABLES; v++) {
            x.variable(v);
            x.join(sort);
        }
        return x;
    }

    /** One formula, 1 for assignment 0 alone: it has all 64 products. */
    static RingProver noneIsOne() {
        RingProver x = allJoined(1);
        x.not();
        return x;
    }

    /** Puts on the formula that is 1 for this assignment alone, in 17 calls at most. */
    static void putOnly(RingProver x, int assignment) {
        for (int v = 0; v < VARIABLES; v++) {
            x.variable(v);
            if (!bit(assignment, v)) {
                x.not();
            }
            if (v > 0) {
                x.join(0);
            }
        }
    }

    /** Puts on the formula that is 1 for the assignments below the bound, 0 to 64, alone. */
    static void putBelow(RingProver x, int bound) {
        x.constant(bound == Due.ASSIGNMENTS ? 1 : 0);
        if (bound == Due.ASSIGNMENTS) {
            return;
        }
        for (int v = 0; v < VARIABLES; v++) {
            x.variable(v);
            x.not();
            x.join(bit(bound, v) ? 1 : 0);
        }
    }

    /** Puts on the sum of those products, in 385 calls at most: one object can't take two such. */
    static void putSum(RingProver x, IntPredicate isIn) {
        x.constant(isIn.test(0) ? 1 : 0);
        for (int product = 1; product < Due.ASSIGNMENTS; product++) {
            if (isIn.test(product)) {
                putProduct(x, product);
                x.join(2);
            }
        }
    }

    private static void putProduct(RingProver x, int product) {
        boolean first = true;
        for (int v = 0; v < VARIABLES; v++) {
            if (bit(product, v)) {
                x.variable(v);
                if (!first) {
                    x.join(0);
                }
                first = false;
            }
        }
    }
}
