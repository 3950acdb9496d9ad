import java.util.function.IntPredicate;
import java.util.function.Supplier;
import java.util.function.ToIntFunction;

/** Each promise of the document: ordinary inputs, the edges that it names, and wrong inputs. */
public final class PromisesTest {
    private static final int[] NO_VARIABLES =
            {-1, 6, 7, 31, 32, 64, -32, Integer.MAX_VALUE, Integer.MIN_VALUE};

    public static void main(String[] args) {
        promise1NewObject();
        promise2Variable();
        promise3Constant();
        promise4Join();
        promise5Not();
        promise6Copy();
        promise7Drop();
        promise8Replace();
        promise9Products();
        promise10Has();
        promise11Degree();
        promise12Models();
        promise13Differ();
        Due.finish("PromisesTest");
    }

    private static void promise1NewObject() {
        Due.due("1: models(0)", new RingProver().models(0), -1);
        Due.due("1: drop()", new RingProver().drop(), -1);
        Due.due("1: constant(0)", new RingProver().constant(0), 1);
        RingProver used = threeFormulas();
        RingProver other = new RingProver();
        Due.due("1: models(0) of an object made after another", other.models(0), -1);
        Due.due("1: constant(1)", other.constant(1), 1);
        Due.due("1: models(2) of the object made before", used.models(2), 32);
        Due.due("1: models(3) of the object made before", used.models(3), -1);
    }

    private static void promise2Variable() {
        for (int v = 0; v < 6; v++) {
            int variable = v;
            RingProver x = new RingProver();
            Due.due("2: variable(" + v + ")", x.variable(v), 1);
            Due.formulaIs("2: variable(" + v + ")", x, 0, a -> Stacks.bit(a, variable));
        }
        RingProver x = new RingProver();
        for (int i = 1; i <= Due.ROOM; i++) {
            Due.due("2: variable as number " + i, x.variable(i % 6), i);
        }
        for (int v : NO_VARIABLES) {
            refusedEverywhere("2: variable(" + v + ")", y -> y.variable(v));
        }
        for (int v = 0; v < 6; v++) {
            int variable = v;
            Due.refused("2: variable(" + v + ") on 12", () -> Stacks.of(Due.ROOM),
                    y -> y.variable(variable));
        }
    }

    private static void promise3Constant() {
        int[] bits = {0, 1, 2, 3, -1, -2, 64, 65, Integer.MAX_VALUE, Integer.MIN_VALUE};
        for (int bit : bits) {
            RingProver x = new RingProver();
            Due.due("3: constant(" + bit + ")", x.constant(bit), 1);
            Due.formulaIs("3: constant(" + bit + ")", x, 0, a -> (bit & 1) == 1);
            Due.due("3: constant(" + bit + ") again", x.constant(bit), 2);
            Due.refused("3: constant(" + bit + ") on 12", () -> Stacks.of(Due.ROOM),
                    y -> y.constant(bit));
        }
        RingProver x = new RingProver();
        for (int i = 1; i <= Due.ROOM; i++) {
            Due.due("3: constant as number " + i, x.constant(i), i);
        }
    }

    private static void promise4Join() {
        // The values for x, y = 0, 0; 0, 1; 1, 0; 1, 1, written out from the document.
        String[] tables = {"0001", "0111", "0110", "1001", "1101", "1110"};
        for (int sort = 0; sort < tables.length; sort++) {
            String table = tables[sort];
            String call = "4: join(" + sort + ")";
            RingProver x = new RingProver();
            x.variable(5);
            x.variable(3);
            x.variable(1);
            Due.due(call, x.join(sort), 2);
            Due.formulaIs(call, x, 0, a -> {
                int row = (Stacks.bit(a, 3) ? 2 : 0) + (Stacks.bit(a, 1) ? 1 : 0);
                return table.charAt(row) == '1';
            });
            Due.formulaIs(call + ", the one below", x, 1, a -> Stacks.bit(a, 5));
            Due.due(call + ", models(2)", x.models(2), -1);
            Due.due(call + " on 12", Stacks.of(Due.ROOM).join(sort), 11);
            RingProver two = twoFormulas();
            Due.due(call + " on 2", two.join(sort), 1);
            Due.due(call + " on 1", two.join(sort), -1);
            refusedWithFewer(call, 2, sort, RingProver::join);
        }
        int[] noSorts = {-1, 6, 7, 8, 32, -32, Integer.MAX_VALUE, Integer.MIN_VALUE};
        for (int sort : noSorts) {
            refusedEverywhere("4: join(" + sort + ")", y -> y.join(sort));
        }
    }

    private static void promise5Not() {
        RingProver x = threeFormulas();
        Due.due("5: not()", x.not(), 0);
        Due.formulaIs("5: not()", x, 0, a -> !(Stacks.bit(a, 1) && Stacks.bit(a, 2)));
        Due.formulaIs("5: not(), the one below", x, 1, a -> Stacks.bit(a, 0) || Stacks.bit(a, 5));
        Due.due("5: not() again", x.not(), 0);
        Due.formulaIs("5: not() twice", x, 0, a -> Stacks.bit(a, 1) && Stacks.bit(a, 2));
        Due.due("5: not() on 12", Stacks.of(Due.ROOM).not(), 0);
        Due.refused("5: not() on none", RingProver::new, RingProver::not);
    }

    private static void promise6Copy() {
        for (int k = 0; k < 3; k++) {
            RingProver x = threeFormulas();
            Due.due("6: copy(" + k + ")", x.copy(k), 4);
            Due.formulaIs("6: copy(" + k + ")", x, 0, threeFormulasAre(k));
            Due.formulaIs("6: copy(" + k + "), the one copied", x, k + 1, threeFormulasAre(k));
            x.not();
            Due.formulaIs("6: copy(" + k + ") and not()", x, k + 1, threeFormulasAre(k));
        }
        RingProver x = threeFormulas();
        for (int i = 4; i <= Due.ROOM; i++) {
            Due.due("6: copy as number " + i, x.copy(i - 2), i);
        }
        Due.formulaIs("6: copy of the lowest", x, 0, threeFormulasAre(2));
        for (int k = 0; k <= Due.ROOM; k++) {
            int number = k;
            Due.refused("6: copy(" + k + ") on 12", () -> Stacks.of(Due.ROOM), y -> y.copy(number));
        }
        refusedWithoutFormula("6: copy", RingProver::copy);
    }

    private static void promise7Drop() {
        RingProver x = threeFormulas();
        Due.due("7: drop()", x.drop(), 2);
        Due.formulaIs("7: drop()", x, 0, threeFormulasAre(1));
        Due.formulaIs("7: drop(), the one below", x, 1, threeFormulasAre(2));
        Due.due("7: models(2)", x.models(2), -1);
        Due.due("7: drop()", x.drop(), 1);
        Due.due("7: drop()", x.drop(), 0);
        Due.due("7: drop() on none", x.drop(), -1);
        Due.due("7: constant(1) after it", x.constant(1), 1);
        RingProver full = Stacks.of(Due.ROOM);
        Due.due("7: drop() on 12", full.drop(), 11);
        Due.due("7: room after drop()", full.variable(0), 12);
        Due.refused("7: drop() on none", RingProver::new, RingProver::drop);
    }

    private static void promise8Replace() {
        for (int v = 0; v < 6; v++) {
            int variable = v;
            String call = "8: replace(" + v + ")";
            RingProver x = new RingProver();
            x.variable(4);
            pushBelow(x);
            pushTop(x);
            Due.due(call, x.replace(v), 2);
            Due.formulaIs(call, x, 0, a -> topIs(Stacks.with(a, variable, belowIs(a))));
            Due.formulaIs(call + ", the one below", x, 1, a -> Stacks.bit(a, 4));
            Due.due(call + ", models(2)", x.models(2), -1);
            Due.due(call + " on 12", Stacks.of(Due.ROOM).replace(v), 11);
            RingProver two = twoFormulas();
            Due.due(call + " on 2", two.replace(v), 1);
            Due.due(call + " on 1", two.replace(v), -1);
            refusedWithFewer(call, 2, v, RingProver::replace);
            replaceByConstant(v, 0);
            replaceByConstant(v, 1);
        }
        for (int v : NO_VARIABLES) {
            refusedEverywhere("8: replace(" + v + ")", y -> y.replace(v));
        }
    }

    private static void replaceByConstant(int v, int bit) {
        String call = "8: replace(" + v + ") by constant " + bit;
        RingProver x = new RingProver();
        x.constant(bit);
        pushTop(x);
        Due.due(call, x.replace(v), 1);
        Due.formulaIs(call, x, 0, a -> topIs(Stacks.with(a, v, bit == 1)));
    }

    private static void promise9Products() {
        RingProver x = new RingProver();
        x.constant(0);
        Due.due("9: products of 0", x.products(0), 0);
        x.constant(1);
        Due.due("9: products of 1", x.products(0), 1);
        x.variable(5);
        Due.due("9: products of a variable", x.products(0), 1);
        x.not();
        Due.due("9: products of its contrary", x.products(0), 2);
        Due.due("9: products(2)", x.products(2), 0);
        Due.due("9: products of six variables or-ed", Stacks.allJoined(1).products(0), 63);
        Due.due("9: products of six variables and-ed", Stacks.allJoined(0).products(0), 1);
        Due.due("9: products of six variables xor-ed", Stacks.allJoined(2).products(0), 6);
        Due.due("9: products of no variable being 1", Stacks.noneIsOne().products(0), 64);
        refusedWithoutFormula("9: products", RingProver::products);
    }

    private static void promise10Has() {
        for (int product = 0; product < Due.ASSIGNMENTS; product++) {
            RingProver x = threeFormulas();
            boolean inTop = product == 6;
            boolean inMiddle = product == 1 || product == 32 || product == 33;
            boolean inLowest = product == 0 || product == 8;
            Due.due("10: has(0, " + product + ")", x.has(0, product), inTop ? 1 : 0);
            Due.due("10: has(1, " + product + ")", x.has(1, product), inMiddle ? 1 : 0);
            Due.due("10: has(2, " + product + ")", x.has(2, product), inLowest ? 1 : 0);
            Due.due("10: has(0, " + product + ") of no variable being 1",
                    Stacks.noneIsOne().has(0, product), 1);
            int p = product;
            refusedWithoutFormula("10: has with product " + p, (y, k) -> y.has(k, p));
        }
        int[] noProducts = {-1, -64, 64, 65, 128, Integer.MAX_VALUE, Integer.MIN_VALUE};
        for (int product : noProducts) {
            refusedEverywhere("10: has(0, " + product + ")", y -> y.has(0, product));
        }
    }

    private static void promise11Degree() {
        RingProver x = new RingProver();
        x.constant(0);
        Due.due("11: degree of 0", x.degree(0), 0);
        x.constant(1);
        Due.due("11: degree of 1", x.degree(0), 0);
        for (int v = 0; v < 6; v++) {
            x.variable(v);
            Due.due("11: degree of variable " + v, x.degree(0), 1);
            x.join(0);
            Due.due("11: degree of variables 0 to " + v + " and-ed", x.degree(0), v + 1);
        }
        Due.due("11: degree(1)", x.degree(1), 0);
        Due.due("11: degree of six variables xor-ed", Stacks.allJoined(2).degree(0), 1);
        // The product with the greatest number, 32, has fewer variables than 7 has.
        RingProver y = new RingProver();
        y.variable(0);
        y.variable(1);
        y.join(0);
        y.variable(2);
        y.join(0);
        y.variable(5);
        y.join(2);
        Due.due("11: degree of 7 and 32", y.degree(0), 3);
        refusedWithoutFormula("11: degree", RingProver::degree);
    }

    private static void promise12Models() {
        RingProver x = new RingProver();
        x.constant(0);
        Due.due("12: models of 0", x.models(0), 0);
        x.constant(1);
        Due.due("12: models of 1", x.models(0), 64);
        Due.due("12: models(1)", x.models(1), 0);
        for (int v = 0; v < 6; v++) {
            x.variable(v);
            Due.due("12: models of variable " + v, x.models(0), 32);
        }
        Due.due("12: models of six variables and-ed", Stacks.allJoined(0).models(0), 1);
        Due.due("12: models of six variables or-ed", Stacks.allJoined(1).models(0), 63);
        Due.due("12: models of no variable being 1", Stacks.noneIsOne().models(0), 1);
        refusedWithoutFormula("12: models", RingProver::models);
    }

    private static void promise13Differ() {
        RingProver x = new RingProver();
        for (int v = 0; v < 6; v++) {
            x.variable(v);
        }
        x.constant(0);
        for (int v = 0; v < 6; v++) {
            Due.due("13: differ of 0 and variable " + v, x.differ(0, 6 - v), 1 << v);
            Due.due("13: differ of variable " + v + " and 0", x.differ(6 - v, 0), 1 << v);
            Due.due("13: differ of a formula and itself", x.differ(v, v), 64);
        }
        Due.due("13: differ of variables 4 and 5", x.differ(1, 2), 16);
        RingProver last = Stacks.allJoined(0);
        last.constant(0);
        Due.due("13: differ in assignment 63 alone", last.differ(0, 1), 63);
        last.not();
        Due.due("13: differ in all but assignment 63", last.differ(0, 1), 0);
        RingProver same = Stacks.allJoined(1);
        same.copy(0);
        Due.due("13: differ of equal formulas", same.differ(0, 1), 64);
        refusedWithoutFormula("13: differ, first number", (y, k) -> y.differ(k, 0));
        refusedWithoutFormula("13: differ, second number", (y, k) -> y.differ(0, k));
        refusedWithoutFormula("13: differ, both numbers", (y, k) -> y.differ(k, k));
    }

    private static void refusedEverywhere(String call, ToIntFunction<RingProver> doCall) {
        Due.refused(call + " on none", RingProver::new, doCall);
        Due.refused(call + " on 3", PromisesTest::threeFormulas, doCall);
        Due.refused(call + " on 12", () -> Stacks.of(Due.ROOM), doCall);
    }

    private static void refusedWithFewer(String call, int needed, int argument, Call doCall) {
        for (int n = 0; n < needed; n++) {
            int formulas = n;
            Supplier<RingProver> make = () -> formulas == 0 ? new RingProver() : oneFormula();
            Due.refused(call + " on " + n, make, x -> doCall.answer(x, argument));
        }
    }

    private static void refusedWithoutFormula(String call, Call doCall) {
        int[] never = {-1, -2, -12, 12, 13, 64, Integer.MAX_VALUE, Integer.MIN_VALUE};
        for (int k : never) {
            refusedEverywhere(call + " of number " + k, x -> doCall.answer(x, k));
        }
        for (int k = 0; k < Due.ROOM; k++) {
            int number = k;
            Due.refused(call + " of number " + k + " on none", RingProver::new,
                    x -> doCall.answer(x, number));
        }
        for (int k = 3; k < Due.ROOM; k++) {
            int number = k;
            Due.refused(call + " of number " + k + " on 3", PromisesTest::threeFormulas,
                    x -> doCall.answer(x, number));
        }
    }

    private static RingProver oneFormula() {
        RingProver x = new RingProver();
        x.variable(3);
        return x;
    }

    private static RingProver twoFormulas() {
        RingProver x = oneFormula();
        x.variable(2);
        return x;
    }

    /** From the lowest: not 3; 0 or 5; 1 and 2. */
    private static RingProver threeFormulas() {
        RingProver x = new RingProver();
        x.variable(3);
        x.not();
        x.variable(0);
        x.variable(5);
        x.join(1);
        x.variable(1);
        x.variable(2);
        x.join(0);
        return x;
    }

    private static IntPredicate threeFormulasAre(int k) {
        switch (k) {
            case 0:
                return a -> Stacks.bit(a, 1) && Stacks.bit(a, 2);
            case 1:
                return a -> Stacks.bit(a, 0) || Stacks.bit(a, 5);
            default:
                return a -> !Stacks.bit(a, 3);
        }
    }

    // Both formulas below use all variables, so that a value taken from the wrong assignment shows.

    private static void pushBelow(RingProver x) {
        x.variable(0);
        x.variable(1);
        x.join(0);
        x.variable(2);
        x.join(2);
        x.variable(3);
        x.variable(4);
        x.join(1);
        x.join(3);
        x.variable(5);
        x.join(5);
    }

    private static boolean belowIs(int a) {
        boolean left = (Stacks.bit(a, 0) && Stacks.bit(a, 1)) ^ Stacks.bit(a, 2);
        boolean right = Stacks.bit(a, 3) || Stacks.bit(a, 4);
        return !(left == right && Stacks.bit(a, 5));
    }

    private static void pushTop(RingProver x) {
        x.variable(5);
        x.variable(0);
        x.join(4);
        x.variable(3);
        x.join(2);
        x.variable(1);
        x.variable(4);
        x.join(0);
        x.join(2);
        x.variable(2);
        x.join(3);
    }

    private static boolean topIs(int a) {
        boolean implied = !Stacks.bit(a, 5) || Stacks.bit(a, 0);
        boolean sum = implied ^ Stacks.bit(a, 3) ^ (Stacks.bit(a, 1) && Stacks.bit(a, 4));
        return sum == Stacks.bit(a, 2);
    }
}
