/**
 * Formulas of logic over six variables, what holds of them for all values, and their sums of
 * products.
 */
public final class RingProver {

    private static final int VARIABLES = 6;
    private static final int ASSIGNMENTS = 64;
    private static final int ROOM = 12;
    private static final int REFUSED = -1;

    // A formula is the 64 bits of a long, bit a being its value for assignment a, so that one
    // operation on longs works on all assignments at once. The top formula is the last one in use.
    private final long[] stack = new long[ROOM];
    private int count;

    public RingProver() {
        count = 0;
    }

    public int variable(int v) {
        if (!isVariable(v)) {
            return REFUSED;
        }
        long values = valuesOfVariable(v);
        return push(values);
    }

    public int constant(int bit) {
        long values = (bit & 1) == 1 ? -1L : 0L;
        return push(values);
    }

    public int join(int sort) {
        if (count < 2 || sort < 0 || sort > 5) {
            return REFUSED;
        }
        long joined = joinedValues(sort, stack[count - 2], stack[count - 1]);
        return replaceTopTwo(joined);
    }

    public int not() {
        if (count < 1) {
            return REFUSED;
        }
        stack[count - 1] = ~stack[count - 1];
        return 0;
    }

    public int copy(int k) {
        if (!isFormula(k)) {
            return REFUSED;
        }
        long values = valuesOfFormula(k);
        return push(values);
    }

    public int drop() {
        if (count < 1) {
            return REFUSED;
        }
        count--;
        return count;
    }

    public int replace(int v) {
        if (count < 2 || !isVariable(v)) {
            return REFUSED;
        }
        long below = stack[count - 2];
        long top = stack[count - 1];
        long topWhereOne = valuesWithVariableOne(top, v);
        long topWhereZero = valuesWithVariableZero(top, v);
        return replaceTopTwo((below & topWhereOne) | (~below & topWhereZero));
    }

    public int products(int k) {
        if (!isFormula(k)) {
            return REFUSED;
        }
        long products = productsOfFormula(k);
        return countOnes(products);
    }

    public int has(int k, int product) {
        if (!isFormula(k) || product < 0 || product >= ASSIGNMENTS) {
            return REFUSED;
        }
        long products = productsOfFormula(k);
        return bitAt(products, product);
    }

    public int degree(int k) {
        if (!isFormula(k)) {
            return REFUSED;
        }
        long products = productsOfFormula(k);
        int greatest = 0;
        for (int product = 0; product < ASSIGNMENTS; product++) {
            int size = countOnes(product);
            if (bitAt(products, product) == 1 && size > greatest) {
                greatest = size;
            }
        }
        return greatest;
    }

    public int models(int k) {
        if (!isFormula(k)) {
            return REFUSED;
        }
        long values = valuesOfFormula(k);
        return countOnes(values);
    }

    public int differ(int k, int l) {
        if (!isFormula(k) || !isFormula(l)) {
            return REFUSED;
        }
        long different = valuesOfFormula(k) ^ valuesOfFormula(l);
        for (int a = 0; a < ASSIGNMENTS; a++) {
            if (bitAt(different, a) == 1) {
                return a;
            }
        }
        return ASSIGNMENTS;
    }

    private static boolean isVariable(int v) {
        return v >= 0 && v < VARIABLES;
    }

    private boolean isFormula(int k) {
        return k >= 0 && k < count;
    }

    private int push(long values) {
        if (count >= ROOM) {
            return REFUSED;
        }
        stack[count] = values;
        count++;
        return count;
    }

    // The caller has seen that there are two.
    private int replaceTopTwo(long values) {
        count--;
        stack[count - 1] = values;
        return count;
    }

    // The caller has seen that there is a formula number k.
    private long valuesOfFormula(int k) {
        return stack[count - 1 - k];
    }

    private static long valuesOfVariable(int v) {
        long values = 0L;
        for (int a = 0; a < ASSIGNMENTS; a++) {
            if (bitAt(a, v) == 1) {
                values |= 1L << a;
            }
        }
        return values;
    }

    private static long joinedValues(int sort, long x, long y) {
        switch (sort) {
            case 0:
                return x & y;
            case 1:
                return x | y;
            case 2:
                return x ^ y;
            case 3:
                return ~(x ^ y);
            case 4:
                return ~x | y;
            default:
                return ~(x & y);
        }
    }

    // The assignments that differ in variable v alone lie 2^v bits apart, so a shift by that much
    // carries the values of the half where v is 1 to the half where it is 0, and back.
    private static long valuesWithVariableOne(long values, int v) {
        long half = values & valuesOfVariable(v);
        return half | (half >>> (1 << v));
    }

    private static long valuesWithVariableZero(long values, int v) {
        long half = values & ~valuesOfVariable(v);
        return half | (half << (1 << v));
    }

    // A product is in the sum if the formula is 1 for an odd number of the assignments that lie
    // within the product. Adding, one variable after the other, the half without the variable to
    // the half with it makes these sums for all products together.
    private long productsOfFormula(int k) {
        long sums = valuesOfFormula(k);
        for (int v = 0; v < VARIABLES; v++) {
            long without = sums & ~valuesOfVariable(v);
            sums ^= without << (1 << v);
        }
        return sums;
    }

    private static int countOnes(long bits) {
        int ones = 0;
        for (int i = 0; i < ASSIGNMENTS; i++) {
            ones += bitAt(bits, i);
        }
        return ones;
    }

    private static int bitAt(long bits, int i) {
        return (int) ((bits >>> i) & 1L);
    }
}
