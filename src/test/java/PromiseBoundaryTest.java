import java.util.function.IntPredicate;
import java.util.function.IntUnaryOperator;
import java.util.function.ToIntFunction;

/** The boundary cases that the promises name: a test for each sentence that names one. */
public final class PromiseBoundaryTest {

    public static void main(String[] args) {
        promises1To3();
        promises4And5();
        promises6To8();
        promises9To11();
        promises12And13();
        Due.finish("PromiseBoundaryTest");
    }

    private static void promises1To3() {
        Due.test("1: The stack is empty", PromiseBoundaryTest::newObjectIsEmpty);
        Due.test("2: the formula that has the value of the variable",
                PromiseBoundaryTest::firstAndLastVariable);
        Due.test("2: Answers how many formulas there are then, or -1",
                () -> putsOnUpTo12("variable(5)", x -> x.variable(5), a -> Stacks.bit(a, 5)));
        Due.test("2: or -1, for no variable", () -> outsideIsRefused("variable", 11, 6,
                RingProver::variable));
        Due.test("3: always bit & 1", PromiseBoundaryTest::onlyTheLowestBitCounts);
        Due.test("3: Answers how many formulas there are then, or -1",
                () -> putsOnUpTo12("constant(1)", x -> x.constant(1), a -> true));
    }

    private static void newObjectIsEmpty() {
        Stacks.of(Due.ROOM);
        Due.refused("drop()", RingProver::new, RingProver::drop);
        Due.refused("models(0)", RingProver::new, x -> x.models(0));
        Due.due("constant(0)", new RingProver().constant(0), 1);
    }

    private static void firstAndLastVariable() {
        for (int v : new int[] {0, 5}) {
            RingProver x = new RingProver();
            x.variable(v);
            Due.formulaIs("variable(" + v + ")", x, 0, a -> Stacks.bit(a, v));
        }
    }

    private static void putsOnUpTo12(String call, ToIntFunction<RingProver> doCall,
            IntPredicate want) {
        for (int n = 0; n < Due.ROOM; n++) {
            RingProver x = Stacks.of(n);
            Due.due(call + " on " + n, doCall.applyAsInt(x), n + 1);
            Due.formulaIs(call + " on " + n, x, 0, want);
            for (int k = 0; k < n; k++) {
                RingProver y = Stacks.of(n);
                doCall.applyAsInt(y);
                Due.formulaIs(call + " on " + n + ", number " + (k + 1), y, k + 1,
                        Stacks.formulaOf(n, k));
            }
        }
        Due.refused(call + " on 12", () -> Stacks.of(Due.ROOM), doCall);
    }

    private static void onlyTheLowestBitCounts() {
        for (int i = 0; i < 32; i++) {
            int power = 1 << i;
            for (int bit : new int[] {power - 1, power, power + 1, -power - 1, -power}) {
                RingProver x = new RingProver();
                Due.due("constant(" + bit + ")", x.constant(bit), 1);
                Due.due("models of constant(" + bit + ")", x.models(0), bit % 2 == 0 ? 0 : 64);
            }
        }
    }

    private static void promises4And5() {
        Due.test("4: x and y", () -> cornersAre(0, 0, 0, 0, 1));
        Due.test("4: x or y", () -> cornersAre(1, 0, 1, 1, 1));
        Due.test("4: x exclusive-or y", () -> cornersAre(2, 0, 1, 1, 0));
        Due.test("4: 1 if x = y, else 0", () -> cornersAre(3, 1, 0, 0, 1));
        Due.test("4: 0 if x = 1 and y = 0, else 1", () -> cornersAre(4, 1, 1, 0, 1));
        Due.test("4: 1 unless both are 1", () -> cornersAre(5, 1, 1, 1, 0));
        Due.test("4: Takes two formulas off the stack and puts one formula on it",
                () -> takesTwoAndPutsOne("join(4)", x -> x.join(4)));
        Due.test("4: or -1 (also if sort is not from 0 to 5)", PromiseBoundaryTest::noSuchSort);
        Due.test("5: 0 where it was 1, 1 where it was 0", PromiseBoundaryTest::contraryOfConstants);
        Due.test("5: Answers 0, or -1", PromiseBoundaryTest::notAnswers0Always);
    }

    private static void cornersAre(int sort, int of00, int of01, int of10, int of11) {
        int[] want = {of00, of01, of10, of11};
        for (int corner = 0; corner < 4; corner++) {
            RingProver x = new RingProver();
            x.constant(corner / 2);
            x.constant(corner % 2);
            String call = "join(" + sort + ") of " + corner / 2 + " and " + corner % 2;
            Due.due(call, x.join(sort), 1);
            Due.due(call + ", models(0)", x.models(0), 64 * want[corner]);
        }
    }

    private static void takesTwoAndPutsOne(String call, ToIntFunction<RingProver> doCall) {
        Due.refused(call + " on 0", RingProver::new, doCall);
        Due.refused(call + " on 1", () -> Stacks.of(1), doCall);
        for (int n = 2; n <= Due.ROOM; n++) {
            RingProver counted = Stacks.of(n);
            Due.due(call + " on " + n, doCall.applyAsInt(counted), n - 1);
            Due.due(call + " on " + n + ", the lowest", counted.models(n - 2) >= 0 ? 1 : 0, 1);
            Due.due(call + " on " + n + ", below the lowest", counted.models(n - 1), -1);
            for (int k = 2; k < n; k++) {
                RingProver x = Stacks.of(n);
                doCall.applyAsInt(x);
                Due.formulaIs(call + " on " + n + ", number " + (k - 1), x, k - 1,
                        Stacks.formulaOf(n, k));
            }
        }
    }

    private static void noSuchSort() {
        for (int formulas : new int[] {2, 3, 12}) {
            outsideIsRefused("join", formulas, 6, RingProver::join);
            for (int sort : new int[] {0, 5}) {
                Due.due("join(" + sort + ")", Stacks.of(formulas).join(sort), formulas - 1);
            }
        }
    }

    private static void contraryOfConstants() {
        for (int bit = 0; bit < 2; bit++) {
            RingProver x = new RingProver();
            x.constant(bit);
            x.not();
            Due.due("models of not " + bit, x.models(0), 64 - 64 * bit);
            x.not();
            Due.due("models of not not " + bit, x.models(0), 64 * bit);
        }
    }

    private static void notAnswers0Always() {
        Due.refused("not() on 0", RingProver::new, RingProver::not);
        for (int n = 1; n <= Due.ROOM; n++) {
            RingProver x = Stacks.of(n);
            IntPredicate top = Stacks.formulaOf(n, 0);
            Due.due("not() on " + n, x.not(), 0);
            Due.formulaIs("not() on " + n, x, 0, top.negate());
            Due.due("not() on " + n + ", the lowest", x.models(n - 1), 32);
            Due.due("not() on " + n + ", below the lowest", x.models(n), -1);
        }
    }

    private static void promises6To8() {
        Due.test("6: Puts a copy of formula number k on the stack",
                PromiseBoundaryTest::copyOfTopAndLowest);
        Due.test("6: Answers how many formulas there are then, or -1",
                PromiseBoundaryTest::copyNeedsFormulaAndRoom);
        Due.test("7: Takes the top formula off. Answers how many there are then, or -1",
                PromiseBoundaryTest::dropFrom12DownToNone);
        Due.test("7: a formula taken off is no more there", PromiseBoundaryTest::dropForgets);
        Due.test("8: the variable v is replaced by the formula below it",
                PromiseBoundaryTest::replaceInVariableItself);
        Due.test("8: the value for the assignment in which v is what the formula below gives",
                PromiseBoundaryTest::replaceOnceOnly);
        Due.test("8: all other variables are as they are",
                PromiseBoundaryTest::replaceWithoutTheVariable);
        Due.test("8: the formula below it, which is taken off the stack",
                () -> takesTwoAndPutsOne("replace(5)", x -> x.replace(5)));
        Due.test("8: or -1, for no variable", () -> outsideIsRefused("replace", 2, 6,
                RingProver::replace));
    }

    private static void copyOfTopAndLowest() {
        for (int n = 1; n < Due.ROOM; n++) {
            for (int k : new int[] {0, n - 1}) {
                RingProver x = Stacks.of(n);
                Due.due("copy(" + k + ") on " + n, x.copy(k), n + 1);
                Due.formulaIs("copy(" + k + ") on " + n, x, 0, Stacks.formulaOf(n, k));
                x.not();
                Due.formulaIs("copy(" + k + ") on " + n + ", not(), the one copied", x, k + 1,
                        Stacks.formulaOf(n, k));
            }
        }
    }

    private static void copyNeedsFormulaAndRoom() {
        for (int n = 0; n < Due.ROOM; n++) {
            outsideIsRefused("copy", n, n, RingProver::copy);
        }
        for (int number = 0; number <= Due.ROOM; number++) {
            int k = number;
            Due.refused("copy(" + k + ") on 12", () -> Stacks.of(Due.ROOM), x -> x.copy(k));
        }
    }

    private static void dropFrom12DownToNone() {
        RingProver x = Stacks.of(Due.ROOM);
        for (int left = Due.ROOM - 1; left >= 0; left--) {
            Due.due("drop() to " + left, x.drop(), left);
        }
        Due.due("drop() on none", x.drop(), -1);
        Due.due("drop() on none again", x.drop(), -1);
        Due.due("variable(0) on none", x.variable(0), 1);
        Due.refused("drop() on none", RingProver::new, RingProver::drop);
    }

    private static void dropForgets() {
        for (int n = 1; n <= Due.ROOM; n++) {
            RingProver x = Stacks.of(n);
            x.drop();
            Due.due("models(-1) after drop() on " + n, x.models(-1), -1);
            Due.due("copy(-1) after drop() on " + n, x.copy(-1), -1);
            Due.due("models(" + (n - 1) + ") after drop() on " + n, x.models(n - 1), -1);
            x.constant(0);
            Due.due("models(0) of a new one in its place", x.models(0), 0);
        }
    }

    private static void replaceInVariableItself() {
        for (int variable = 0; variable < 6; variable++) {
            int v = variable;
            RingProver x = new RingProver();
            Stacks.putOnly(x, 37);
            x.variable(v);
            Due.due("replace(" + v + ")", x.replace(v), 1);
            Due.formulaIs("replace(" + v + ") in variable " + v, x, 0, a -> a == 37);
        }
    }

    // A formula below that names v itself shows whether its own v is replaced once more.
    private static void replaceOnceOnly() {
        for (int v = 0; v < 6; v++) {
            int bit = 1 << v;
            replacedIs("its contrary", v, RingProver::not, a -> a ^ bit);
            replacedIs("itself", v, x -> x.copy(0), a -> a);
            replacedIs("constant 0", v, x -> x.constant(0), a -> a & ~bit);
            replacedIs("constant 1", v, x -> x.constant(1), a -> a | bit);
        }
    }

    /** The tops that it is tried in end at the first, at a middle and at the last assignment. */
    private static void replacedIs(String by, int v, ToIntFunction<RingProver> makeBelow,
            IntUnaryOperator assignmentAskedFor) {
        for (int bound : new int[] {1, 43, 63}) {
            for (int turned = 0; turned < 2; turned++) {
                boolean isBelow = turned == 0;
                RingProver x = new RingProver();
                x.variable(v);
                makeBelow.applyAsInt(x);
                Stacks.putBelow(x, bound);
                if (!isBelow) {
                    x.not();
                }
                x.replace(v);
                Due.formulaIs("replace(" + v + ") by " + by, x, 0,
                        a -> assignmentAskedFor.applyAsInt(a) < bound == isBelow);
            }
        }
    }

    private static void replaceWithoutTheVariable() {
        for (int variable = 0; variable < 6; variable++) {
            int v = variable;
            for (int other = 0; other < 6; other++) {
                int w = other;
                RingProver x = new RingProver();
                Stacks.putOnly(x, 63);
                x.variable(w);
                x.replace(v);
                Due.formulaIs("replace(" + v + ") in variable " + w, x, 0,
                        a -> w == v ? a == 63 : Stacks.bit(a, w));
            }
            for (int bit = 0; bit < 2; bit++) {
                RingProver x = new RingProver();
                x.variable(v);
                x.constant(bit);
                Due.due("replace(" + v + ") in " + bit, x.replace(v), 1);
                Due.due("replace(" + v + ") in " + bit + ", models(0)", x.models(0), 64 * bit);
            }
        }
    }

    private static void promises9To11() {
        Due.test("9: How many products formula number k has",
                PromiseBoundaryTest::from0To64Products);
        Due.test("9: or -1", () -> needsFormula("products", RingProver::products));
        Due.test("10: 1 if the product (0 to 63) is one of formula number k's products, else 0",
                PromiseBoundaryTest::hasAllNoneAndEnds);
        Due.test("10: -1, for no product", () -> outsideIsRefused("has of product", 1, 64,
                (x, product) -> x.has(0, product)));
        Due.test("10: -1, for no formula", PromiseBoundaryTest::hasNeedsFormula);
        Due.test("11: The greatest number of variables that a product has",
                PromiseBoundaryTest::degreesFrom1To6);
        Due.test("11: 0 if it has no product", () -> degreeIs("no product", 0, q -> false));
        Due.test("11: or only the empty one", PromiseBoundaryTest::degreeWithTheEmptyProduct);
        Due.test("11: -1", () -> needsFormula("degree", RingProver::degree));
    }

    private static void from0To64Products() {
        for (int count = 0; count <= Due.ASSIGNMENTS; count++) {
            int n = count;
            RingProver first = new RingProver();
            Stacks.putSum(first, q -> q < n);
            Due.due("products of the sum of the first " + n, first.products(0), n);
            RingProver last = new RingProver();
            Stacks.putSum(last, q -> q >= Due.ASSIGNMENTS - n);
            Due.due("products of the sum of the last " + n, last.products(0), n);
        }
    }

    private static void hasAllNoneAndEnds() {
        hasJust("no product", q -> false);
        hasJust("all products", q -> true);
        hasJust("product 0", q -> q == 0);
        hasJust("product 63", q -> q == 63);
        hasJust("all but product 0", q -> q != 0);
        hasJust("all but product 63", q -> q != 63);
        RingProver lowest = Stacks.of(Due.ROOM);
        Due.due("has(11, 1) on 12", lowest.has(11, 1), 1);
        Due.due("has(11, 2) on 12", lowest.has(11, 2), 0);
    }

    private static void hasJust(String sum, IntPredicate isIn) {
        RingProver x = new RingProver();
        Stacks.putSum(x, isIn);
        for (int q = 0; q < Due.ASSIGNMENTS; q++) {
            Due.due("has(0, " + q + ") of " + sum, x.has(0, q), isIn.test(q) ? 1 : 0);
        }
    }

    private static void hasNeedsFormula() {
        needsFormula("has of product 0", (x, k) -> x.has(k, 0));
        needsFormula("has of product 63", (x, k) -> x.has(k, 63));
    }

    private static void degreesFrom1To6() {
        for (int product = 1; product < Due.ASSIGNMENTS; product++) {
            int p = product;
            degreeIs("product " + p, Integer.bitCount(p), q -> q == p);
        }
        for (int degree = 1; degree <= 6; degree++) {
            int d = degree;
            degreeIs("all products up to " + d, d, q -> Integer.bitCount(q) <= d);
        }
        degreeIs("products 31 and 32", 5, q -> q == 31 || q == 32);
        degreeIs("products 3 and 60", 4, q -> q == 3 || q == 60);
    }

    private static void degreeWithTheEmptyProduct() {
        degreeIs("the empty product alone", 0, q -> q == 0);
        for (int v = 0; v < 6; v++) {
            int variable = 1 << v;
            degreeIs("the empty product and " + variable, 1, q -> q == 0 || q == variable);
        }
        degreeIs("the empty product and 63", 6, q -> q == 0 || q == 63);
    }

    private static void degreeIs(String sum, int degree, IntPredicate isIn) {
        RingProver x = new RingProver();
        Stacks.putSum(x, isIn);
        Due.due("degree of " + sum, x.degree(0), degree);
    }

    private static void promises12And13() {
        Due.test("12: How many assignments formula number k is 1 for",
                PromiseBoundaryTest::from0To64Models);
        Due.test("12: or -1", () -> needsFormula("models", RingProver::models));
        Due.test("13: The least assignment for which the formulas have different values",
                PromiseBoundaryTest::leastFrom0To63);
        Due.test("13: 64 if there is none", PromiseBoundaryTest::equalFormulasDifferNowhere);
        Due.test("13: -1, for the first number",
                () -> needsFormula("differ(k, 0)", (x, k) -> x.differ(k, 0)));
        Due.test("13: -1, for the second number",
                () -> needsFormula("differ(0, k)", (x, k) -> x.differ(0, k)));
        Due.test("13: -1, for both numbers",
                () -> needsFormula("differ(k, k)", (x, k) -> x.differ(k, k)));
    }

    private static void from0To64Models() {
        for (int n = 0; n <= Due.ASSIGNMENTS; n++) {
            RingProver x = new RingProver();
            Stacks.putBelow(x, n);
            Due.due("models of the assignments below " + n, x.models(0), n);
            x.not();
            Due.due("models of the assignments from " + n, x.models(0), Due.ASSIGNMENTS - n);
        }
    }

    private static void leastFrom0To63() {
        for (int n = 0; n < Due.ASSIGNMENTS; n++) {
            for (int m = n + 1; m <= Due.ASSIGNMENTS; m++) {
                RingProver x = new RingProver();
                Stacks.putBelow(x, n);
                Stacks.putBelow(x, m);
                Due.due("differ of below " + n + " and below " + m, x.differ(1, 0), n);
                Due.due("differ of below " + m + " and below " + n, x.differ(0, 1), n);
            }
        }
    }

    private static void equalFormulasDifferNowhere() {
        for (int n = 0; n <= Due.ASSIGNMENTS; n++) {
            RingProver x = new RingProver();
            Stacks.putBelow(x, n);
            Due.due("differ of a formula and itself", x.differ(0, 0), 64);
            Stacks.putBelow(x, n);
            Due.due("differ of below " + n + " made twice", x.differ(0, 1), 64);
        }
        RingProver full = Stacks.of(Due.ROOM);
        full.drop();
        full.copy(10);
        Due.due("differ(0, 11)", full.differ(0, 11), 64);
        Due.due("differ(11, 0)", full.differ(11, 0), 64);
        Due.due("differ(11, 11)", full.differ(11, 11), 64);
    }

    private static void needsFormula(String call, Call doCall) {
        for (int n = 0; n <= Due.ROOM; n++) {
            outsideIsRefused(call, n, n, doCall);
            if (n > 0) {
                Due.holds(call + " of the top of " + n, doCall.answer(Stacks.of(n), 0) >= 0);
                Due.holds(call + " of the lowest of " + n,
                        doCall.answer(Stacks.of(n), n - 1) >= 0);
            }
        }
    }

    private static void outsideIsRefused(String call, int formulas, int bound, Call doCall) {
        Due.allRefused(call + " on " + formulas, () -> Stacks.of(formulas), Due.outside(bound),
                doCall);
    }
}
