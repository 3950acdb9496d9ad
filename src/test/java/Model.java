import java.util.ArrayList;
import java.util.List;

/** The document once more, assignment by assignment, to compare the program with. */
final class Model {
    private static final int ASSIGNMENTS = Due.ASSIGNMENTS;

    // The top formula comes first, so that a formula's number is its place.
    private final List<boolean[]> formulas = new ArrayList<>();

    int variable(int v) {
        if (v < 0 || v > 5) {
            return -1;
        }
        boolean[] values = new boolean[ASSIGNMENTS];
        for (int a = 0; a < ASSIGNMENTS; a++) {
            values[a] = (a / (1 << v)) % 2 == 1;
        }
        return put(values);
    }

    int constant(int bit) {
        boolean[] values = new boolean[ASSIGNMENTS];
        for (int a = 0; a < ASSIGNMENTS; a++) {
            values[a] = bit % 2 != 0;
        }
        return put(values);
    }

    int join(int sort) {
        if (formulas.size() < 2 || sort < 0 || sort > 5) {
            return -1;
        }
        boolean[] y = formulas.remove(0);
        boolean[] x = formulas.remove(0);
        boolean[] values = new boolean[ASSIGNMENTS];
        for (int a = 0; a < ASSIGNMENTS; a++) {
            values[a] = joined(sort, x[a], y[a]);
        }
        return put(values);
    }

    private static boolean joined(int sort, boolean x, boolean y) {
        switch (sort) {
            case 0:
                return x && y;
            case 1:
                return x || y;
            case 2:
                return x != y;
            case 3:
                return x == y;
            case 4:
                return !(x && !y);
            default:
                return !(x && y);
        }
    }

    int not() {
        if (formulas.isEmpty()) {
            return -1;
        }
        boolean[] values = formulas.get(0);
        for (int a = 0; a < ASSIGNMENTS; a++) {
            values[a] = !values[a];
        }
        return 0;
    }

    int copy(int k) {
        return there(k) ? put(formulas.get(k).clone()) : -1;
    }

    int drop() {
        if (formulas.isEmpty()) {
            return -1;
        }
        formulas.remove(0);
        return formulas.size();
    }

    int replace(int v) {
        if (formulas.size() < 2 || v < 0 || v > 5) {
            return -1;
        }
        boolean[] top = formulas.remove(0);
        boolean[] below = formulas.remove(0);
        boolean[] values = new boolean[ASSIGNMENTS];
        for (int a = 0; a < ASSIGNMENTS; a++) {
            int others = a & ~(1 << v);
            values[a] = top[below[a] ? others + (1 << v) : others];
        }
        return put(values);
    }

    int products(int k) {
        return there(k) ? ones(productsOf(k)) : -1;
    }

    int has(int k, int product) {
        if (!there(k) || product < 0 || product > 63) {
            return -1;
        }
        return productsOf(k)[product] ? 1 : 0;
    }

    int degree(int k) {
        if (!there(k)) {
            return -1;
        }
        boolean[] products = productsOf(k);
        int greatest = 0;
        for (int product = 0; product < ASSIGNMENTS; product++) {
            if (products[product]) {
                greatest = Math.max(greatest, Integer.bitCount(product));
            }
        }
        return greatest;
    }

    int models(int k) {
        return there(k) ? ones(formulas.get(k)) : -1;
    }

    int differ(int k, int l) {
        if (!there(k) || !there(l)) {
            return -1;
        }
        int a = 0;
        while (a < ASSIGNMENTS && formulas.get(k)[a] == formulas.get(l)[a]) {
            a++;
        }
        return a;
    }

    int size() {
        return formulas.size();
    }

    private boolean there(int k) {
        return k >= 0 && k < formulas.size();
    }

    private int put(boolean[] values) {
        if (formulas.size() == Due.ROOM) {
            return -1;
        }
        formulas.add(0, values);
        return formulas.size();
    }

    // A product that is 1 for an assignment is no greater a number than it. So, in rising order,
    // whether the product with the assignment's own number is there is all that is still open.
    private boolean[] productsOf(int k) {
        boolean[] values = formulas.get(k);
        boolean[] products = new boolean[ASSIGNMENTS];
        for (int a = 0; a < ASSIGNMENTS; a++) {
            boolean sum = false;
            for (int product = 0; product < a; product++) {
                sum ^= products[product] && (product & a) == product;
            }
            products[a] = sum != values[a];
        }
        return products;
    }

    private static int ones(boolean[] bits) {
        int ones = 0;
        for (boolean bit : bits) {
            ones += bit ? 1 : 0;
        }
        return ones;
    }
}
