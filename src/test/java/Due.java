import java.util.function.IntPredicate;
import java.util.function.Supplier;
import java.util.function.ToIntFunction;
import java.util.stream.IntStream;

/** What the tests of the project share: counting wrong answers, and reading a whole object. */
final class Due {
    static final int ASSIGNMENTS = 64;
    static final int ROOM = 12;

    private static int checked = 0;
    private static int wrong = 0;

    private Due() {
    }

    static void due(String call, long got, long want) {
        checked++;
        if (got != want) {
            wrong++;
            System.out.println(call + " answered " + got + ", due is " + want);
        }
    }

    static void holds(String what, boolean itHolds) {
        due(what, itHolds ? 1 : 0, 1);
    }

    /** A test of its own for one sentence of the document; one that checks nothing is wrong too. */
    static void test(String sentence, Runnable body) {
        int checkedBefore = checked;
        int wrongBefore = wrong;
        try {
            body.run();
        } catch (RuntimeException thrown) {
            wrong++;
            System.out.println("a call threw " + thrown);
        }
        holds("the test of \"" + sentence + "\" checks something", checked > checkedBefore);
        if (wrong > wrongBefore) {
            System.out.println("not held: \"" + sentence + "\"");
        }
    }

    static void formulaIs(String call, RingProver x, int k, IntPredicate want) {
        boolean[] values = valuesOf(x, k);
        for (int a = 0; a < ASSIGNMENTS; a++) {
            due(call + " for assignment " + a, values[a] ? 1 : 0, want.test(a) ? 1 : 0);
        }
    }

    /** The values of formula number k, summed up from its products as the document defines them. */
    static boolean[] valuesOf(RingProver x, int k) {
        boolean[] values = new boolean[ASSIGNMENTS];
        for (int product = 0; product < ASSIGNMENTS; product++) {
            if (x.has(k, product) == 1) {
                for (int a = 0; a < ASSIGNMENTS; a++) {
                    values[a] ^= (a & product) == product;
                }
            }
        }
        return values;
    }

    /**
     * The call must answer -1 and leave all formulas as they were. Every formula is read on an
     * object of its own, since an object may be used for 512 calls only.
     */
    static void refused(String call, Supplier<RingProver> make, ToIntFunction<RingProver> doCall) {
        for (int k = 0; k <= ROOM; k++) {
            RingProver called = make.get();
            due(call, doCall.applyAsInt(called), -1);
            sameFormula(call, called, make.get(), k);
        }
    }

    /** The same of a row of calls, one for each argument; they must leave room for 65 more. */
    static void allRefused(String call, Supplier<RingProver> make, int[] arguments, Call doCall) {
        for (int k = 0; k <= ROOM; k++) {
            RingProver called = make.get();
            for (int argument : arguments) {
                due(call + " with " + argument, doCall.answer(called, argument), -1);
            }
            sameFormula(call + " with wrong arguments", called, make.get(), k);
        }
    }

    private static void sameFormula(String call, RingProver called, RingProver untouched, int k) {
        due(call + ", then models(" + k + ")", called.models(k), untouched.models(k));
        for (int product = 0; product < ASSIGNMENTS; product++) {
            due(call + ", then has(" + k + ", " + product + ")",
                    called.has(k, product), untouched.has(k, product));
        }
    }

    /**
     * Numbers that are not from 0 to bound - 1: the nearest, the farthest, and those about the
     * powers of two, which a shift, a mask or a narrower type would take for a right one.
     */
    static int[] outside(int bound) {
        IntStream near = IntStream.of(-1, -2, -bound, bound, bound + 1, 2 * bound);
        IntStream aboutPowers = IntStream.range(0, 32).map(i -> 1 << i)
                .flatMap(p -> IntStream.of(p - 1, p, p + 1, -p - 1, -p));
        return IntStream.concat(near, aboutPowers)
                .filter(n -> n < 0 || n >= bound)
                .sorted()
                .distinct()
                .toArray();
    }

    static void finish(String name) {
        System.out.println(name + ": " + checked + " answers checked, " + wrong + " wrong");
        if (wrong != 0 || checked == 0) {
            System.exit(1);
        }
    }
}
