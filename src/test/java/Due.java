import java.util.function.Supplier;
import java.util.function.ToIntFunction;

/** What the tests of the project share: counting wrong answers, and reading a whole object. */
final class Due {
    static final int ASSIGNMENTS = 64;
    static final int ROOM = 12;

    private static int checked = 0;
    private static int wrong = 0;

    private Due() {
    }

    static void due(String call, long got, long want) {
        checked++;
        if (got != want) {
            wrong++;
            System.out.println(call + " answered " + got + ", due is " + want);
        }
    }

    static void holds(String what, boolean itHolds) {
        due(what, itHolds ? 1 : 0, 1);
    }

    /** The values of formula number k, summed up from its products as the document defines them. */
    static boolean[] valuesOf(RingProver x, int k) {
        boolean[] values = new boolean[ASSIGNMENTS];
        for (int product = 0; product < ASSIGNMENTS; product++) {
            if (x.has(k, product) == 1) {
                for (int a = 0; a < ASSIGNMENTS; a++) {
                    values[a] ^= (a & product) == product;
                }
            }
        }
        return values;
    }

    /**
     * The call must answer -1 and leave all formulas as they were. Every formula is read on an
     * object of its own, since an object may be used for 512 calls only.
     */
    static void refused(String call, Supplier<RingProver> make, ToIntFunction<RingProver> doCall) {
        for (int k = 0; k <= ROOM; k++) {
            RingProver untouched = make.get();
            RingProver called = make.get();
            due(call, doCall.applyAsInt(called), -1);
            due(call + ", then models(" + k + ")", called.models(k), untouched.models(k));
            for (int product = 0; product < ASSIGNMENTS; product++) {
                due(call + ", then has(" + k + ", " + product + ")",
                        called.has(k, product), untouched.has(k, product));
            }
        }
    }

    static void finish(String name) {
        System.out.println(name + ": " + checked + " answers checked, " + wrong + " wrong");
        if (wrong != 0 || checked == 0) {
            System.exit(1);
        }
    }
}
