import java.util.function.ToIntFunction;

/**
 * The boundary cases that the document names before its promises: a test for each sentence, or for
 * each case where a sentence names several.
 */
public final class TermsBoundaryTest {
    private static final int[] SIZES = {0, 1, 2, 3, 11, 12};

    public static void main(String[] args) {
        Due.test("An object is used for at most 512 calls after it has been made",
                TermsBoundaryTest::the512thCallIsRight);
        Due.test("VARIABLES are 0 to 5", TermsBoundaryTest::variablesEndAt0And5);
        Due.test("each is 0 or 1", TermsBoundaryTest::aVariableIsBoth0And1);
        Due.test("An ASSIGNMENT is a number a from 0 to 63",
                TermsBoundaryTest::assignmentsEndAt0And63);
        Due.test("variable v has in it the value of bit v of a",
                TermsBoundaryTest::allVariablesAre0In0And1In63);
        Due.test("FORMULAS are kept on a STACK of at most 12", TermsBoundaryTest::twelveAreKept);
        Due.test("the top one being number 0, the one below it number 1, and so on",
                TermsBoundaryTest::numbersEndAt0AndTheLowest);
        Due.test("At the start the stack is empty", TermsBoundaryTest::startIsEmpty);
        Due.test("written as the number from 0 to 63", TermsBoundaryTest::productsEndAt0And63);
        Due.test("else 0", TermsBoundaryTest::aProductLackingOneVariableIs0);
        Due.test("the empty product is always 1", TermsBoundaryTest::emptyProductIsAlways1);
        Due.test("exactly one set of products",
                TermsBoundaryTest::noSetAndTheWholeSetAreFoundAgain);
        Due.test("the remainder by 2 of how many of these products have the value 1",
                TermsBoundaryTest::theSumWrapsAround);
        Due.test("A call that needs more formulas than there are",
                TermsBoundaryTest::tooFewFormulasAreRefused);
        Due.test("or more room than there is", TermsBoundaryTest::tooLittleRoomIsRefused);
        Due.test("or an argument out of its range", TermsBoundaryTest::argumentsOutsideAreRefused);
        Due.test("a number of a formula out of its range",
                TermsBoundaryTest::numbersOutsideAreRefused);
        Due.test("a call refused for two reasons at once",
                TermsBoundaryTest::twoReasonsAtOnceAreRefused);
        Due.test("answers -1 and changes nothing: the calls after it go on as if it had not been",
                TermsBoundaryTest::refusedCallsLeaveNoTrace);
        Due.finish("TermsBoundaryTest");
    }

    private static void the512thCallIsRight() {
        isDueAs512th("variable(5)", 3, x -> x.variable(5));
        isDueAs512th("constant(1)", 3, x -> x.constant(1));
        isDueAs512th("join(0)", 1, x -> x.join(0));
        isDueAs512th("not()", 0, RingProver::not);
        isDueAs512th("copy(1)", 3, x -> x.copy(1));
        isDueAs512th("drop()", 1, RingProver::drop);
        isDueAs512th("replace(0)", 1, x -> x.replace(0));
        isDueAs512th("products(0)", 1, x -> x.products(0));
        isDueAs512th("has(0, 2)", 1, x -> x.has(0, 2));
        isDueAs512th("degree(0)", 1, x -> x.degree(0));
        isDueAs512th("models(0)", 32, x -> x.models(0));
        isDueAs512th("differ(0, 1)", 1, x -> x.differ(0, 1));
        aStackFilledByCall512();
    }

    private static void isDueAs512th(String call, int want, ToIntFunction<RingProver> doCall) {
        RingProver x = Stacks.of(2);
        for (int i = 3; i < 512; i++) {
            Due.due("variable(6), call " + i, x.variable(6), -1);
        }
        Due.due(call + ", call 512", doCall.applyAsInt(x), want);
    }

    private static void aStackFilledByCall512() {
        RingProver x = new RingProver();
        for (int i = 0; i < 250; i++) {
            Due.due("variable, call " + (2 * i + 1), x.variable(i % 6), 1);
            Due.due("drop, call " + (2 * i + 2), x.drop(), 0);
        }
        for (int i = 1; i <= Due.ROOM; i++) {
            Due.due("constant, call " + (500 + i), x.constant(1), i);
        }
    }

    private static void variablesEndAt0And5() {
        for (int v : new int[] {0, 5}) {
            Due.due("variable(" + v + ")", new RingProver().variable(v), 1);
            Due.due("replace(" + v + ")", Stacks.of(2).replace(v), 1);
        }
        for (int v : new int[] {-1, 6}) {
            Due.refused("variable(" + v + ")", () -> Stacks.of(2), x -> x.variable(v));
            Due.refused("replace(" + v + ")", () -> Stacks.of(2), x -> x.replace(v));
        }
    }

    private static void aVariableIsBoth0And1() {
        for (int v = 0; v < 6; v++) {
            RingProver x = new RingProver();
            x.variable(v);
            Due.due("models of variable " + v, x.models(0), 32);
            x.not();
            Due.due("models of its contrary", x.models(0), 32);
        }
    }

    private static void assignmentsEndAt0And63() {
        for (int a = 0; a < Due.ASSIGNMENTS; a++) {
            RingProver x = new RingProver();
            x.constant(0);
            Stacks.putOnly(x, a);
            Due.due("models of assignment " + a + " alone", x.models(0), 1);
            Due.due("differ of assignment " + a + " alone and 0", x.differ(0, 1), a);
        }
    }

    private static void allVariablesAre0In0And1In63() {
        RingProver x = new RingProver();
        x.constant(1);
        for (int v = 0; v < 6; v++) {
            x.variable(v);
            Due.due("variable " + v + " is 0 for assignment 0", x.differ(0, v + 1), 0);
        }
        x = new RingProver();
        Stacks.putOnly(x, 63);
        for (int v = 0; v < 6; v++) {
            x.copy(v);
            x.variable(v);
            x.join(0);
            Due.due("variable " + v + " is 1 for assignment 63", x.differ(0, v + 1), 64);
        }
    }

    private static void twelveAreKept() {
        keepsTwelve("variable(3)", x -> x.variable(3));
        keepsTwelve("constant(1)", x -> x.constant(1));
        keepsTwelve("copy(0)", x -> x.copy(0));
        RingProver x = Stacks.of(Due.ROOM);
        x.drop();
        Due.due("room for one after drop()", x.variable(0), 12);
        Due.due("and for no other", x.variable(0), -1);
    }

    private static void keepsTwelve(String call, ToIntFunction<RingProver> doCall) {
        RingProver x = Stacks.of(1);
        for (int i = 2; i <= Due.ROOM; i++) {
            Due.due(call + " as formula " + i, doCall.applyAsInt(x), i);
        }
        Due.due(call + " as formula 13", doCall.applyAsInt(x), -1);
        Due.due(call + " as formula 13 again", doCall.applyAsInt(x), -1);
    }

    private static void numbersEndAt0AndTheLowest() {
        for (int n = 1; n <= Due.ROOM; n++) {
            for (int k = 0; k < n; k++) {
                Due.formulaIs("number " + k + " of " + n, Stacks.of(n), k, Stacks.formulaOf(n, k));
            }
            Due.due("number " + n + " of " + n, Stacks.of(n).models(n), -1);
            Due.due("number -1 of " + n, Stacks.of(n).models(-1), -1);
        }
    }

    private static void startIsEmpty() {
        for (int k = 0; k <= Due.ROOM; k++) {
            Due.due("models(" + k + ") at the start", new RingProver().models(k), -1);
        }
        Due.due("the first formula", new RingProver().variable(0), 1);
    }

    private static void productsEndAt0And63() {
        for (int product = 0; product < Due.ASSIGNMENTS; product++) {
            int p = product;
            RingProver x = new RingProver();
            Stacks.putSum(x, q -> q == p);
            for (int q = 0; q < Due.ASSIGNMENTS; q++) {
                Due.due("has(0, " + q + ") of product " + p, x.has(0, q), q == p ? 1 : 0);
            }
        }
        for (int product : new int[] {-1, 64}) {
            Due.refused("has(0, " + product + ")", Stacks::noneIsOne, x -> x.has(0, product));
        }
    }

    private static void aProductLackingOneVariableIs0() {
        for (int v = 0; v < 6; v++) {
            RingProver x = new RingProver();
            Stacks.putSum(x, q -> q == 63);
            Stacks.putOnly(x, Stacks.with(63, v, false));
            x.join(0);
            Due.due("models of product 63 where variable " + v + " is 0", x.models(0), 0);
        }
    }

    private static void emptyProductIsAlways1() {
        RingProver x = new RingProver();
        x.constant(1);
        Due.due("has(0, 0) of 1", x.has(0, 0), 1);
        Due.due("products of 1", x.products(0), 1);
        Due.due("models of 1", x.models(0), 64);
        x.constant(0);
        Due.due("has(0, 0) of 0", x.has(0, 0), 0);
    }

    private static void noSetAndTheWholeSetAreFoundAgain() {
        for (int count = 0; count <= Due.ASSIGNMENTS; count++) {
            int first = count;
            RingProver x = new RingProver();
            Stacks.putSum(x, q -> q < first);
            for (int q = 0; q < Due.ASSIGNMENTS; q++) {
                Due.due("has(0, " + q + ") of the products below " + first,
                        x.has(0, q), q < first ? 1 : 0);
            }
        }
    }

    private static void theSumWrapsAround() {
        RingProver all = new RingProver();
        Stacks.putSum(all, q -> true);
        all.constant(0);
        Due.due("models of all 64 products", all.models(1), 1);
        Due.due("all 64 products are 1 for assignment 0 alone", all.differ(0, 1), 0);
        RingProver odd = new RingProver();
        Stacks.putSum(odd, q -> q != 0);
        odd.constant(1);
        Due.due("models of 63 products", odd.models(1), 63);
        Due.due("63 products are 0 for assignment 0 alone", odd.differ(0, 1), 0);
        RingProver twice = Stacks.noneIsOne();
        twice.copy(0);
        twice.join(2);
        Due.due("products of a formula added to itself", twice.products(0), 0);
    }

    private static void tooFewFormulasAreRefused() {
        for (int formulas = 0; formulas < 2; formulas++) {
            int n = formulas;
            for (int i = 0; i < 6; i++) {
                int argument = i;
                Due.refused("join(" + i + ") on " + n, () -> Stacks.of(n), x -> x.join(argument));
                Due.refused("replace(" + i + ") on " + n, () -> Stacks.of(n),
                        x -> x.replace(argument));
            }
        }
        Due.refused("not() on 0", RingProver::new, RingProver::not);
        Due.refused("drop() on 0", RingProver::new, RingProver::drop);
        Due.due("join(0) on 2", Stacks.of(2).join(0), 1);
        Due.due("replace(0) on 2", Stacks.of(2).replace(0), 1);
        Due.due("not() on 1", Stacks.of(1).not(), 0);
        Due.due("drop() on 1", Stacks.of(1).drop(), 0);
    }

    private static void tooLittleRoomIsRefused() {
        for (int i = 0; i < Due.ROOM; i++) {
            int argument = i;
            Due.refused("variable(" + i % 6 + ") on 12", () -> Stacks.of(Due.ROOM),
                    x -> x.variable(argument % 6));
            Due.refused("constant(" + i + ") on 12", () -> Stacks.of(Due.ROOM),
                    x -> x.constant(argument));
            Due.refused("copy(" + i + ") on 12", () -> Stacks.of(Due.ROOM),
                    x -> x.copy(argument));
        }
        Due.due("variable(5) on 11", Stacks.of(11).variable(5), 12);
        Due.due("constant(0) on 11", Stacks.of(11).constant(0), 12);
        Due.due("copy(10) on 11", Stacks.of(11).copy(10), 12);
    }

    private static void argumentsOutsideAreRefused() {
        for (int formulas : SIZES) {
            outsideIsRefused("variable", formulas, 6, RingProver::variable);
            outsideIsRefused("join", formulas, 6, RingProver::join);
            outsideIsRefused("replace", formulas, 6, RingProver::replace);
            outsideIsRefused("has of product", formulas, 64, (x, p) -> x.has(0, p));
        }
    }

    private static void numbersOutsideAreRefused() {
        for (int n = 0; n <= Due.ROOM; n++) {
            outsideIsRefused("copy", n, n, RingProver::copy);
            outsideIsRefused("products", n, n, RingProver::products);
            outsideIsRefused("has of number", n, n, (x, k) -> x.has(k, 0));
            outsideIsRefused("degree", n, n, RingProver::degree);
            outsideIsRefused("models", n, n, RingProver::models);
            outsideIsRefused("differ of number and 0", n, n, (x, k) -> x.differ(k, 0));
            outsideIsRefused("differ of 0 and number", n, n, (x, k) -> x.differ(0, k));
        }
    }

    private static void outsideIsRefused(String call, int formulas, int bound, Call doCall) {
        Due.allRefused(call + " on " + formulas, () -> Stacks.of(formulas), Due.outside(bound),
                doCall);
    }

    private static void twoReasonsAtOnceAreRefused() {
        for (int wrong : new int[] {-1, 64, Integer.MAX_VALUE, Integer.MIN_VALUE}) {
            Due.refused("variable(" + wrong + ") on 12", () -> Stacks.of(Due.ROOM),
                    x -> x.variable(wrong));
            Due.refused("copy(" + wrong + ") on 12", () -> Stacks.of(Due.ROOM),
                    x -> x.copy(wrong));
            Due.refused("join(" + wrong + ") on 1", () -> Stacks.of(1), x -> x.join(wrong));
            Due.refused("replace(" + wrong + ") on 1", () -> Stacks.of(1), x -> x.replace(wrong));
            Due.refused("has of both wrong", () -> Stacks.of(3), x -> x.has(wrong, wrong));
            Due.refused("differ of both wrong", () -> Stacks.of(3), x -> x.differ(wrong, wrong));
        }
        Due.refused("variable(6) on 12", () -> Stacks.of(Due.ROOM), x -> x.variable(6));
        Due.refused("copy(12) on 12", () -> Stacks.of(Due.ROOM), x -> x.copy(12));
    }

    private static void refusedCallsLeaveNoTrace() {
        RingProver x = Stacks.of(Due.ROOM);
        refuseAll(x);
        Due.due("join(2) after refused calls", x.join(2), 11);
        Due.formulaIs("join(2) after refused calls", x, 0,
                a -> Stacks.bit(a, 4) ^ Stacks.bit(a, 5));
        RingProver one = Stacks.of(1);
        refuseAll(one);
        one.drop();
        refuseAll(one);
        Due.due("drop() after refused calls", one.drop(), -1);
        Due.due("variable(2) after refused calls", one.variable(2), 1);
        Due.formulaIs("variable(2) after refused calls", one, 0, a -> Stacks.bit(a, 2));
    }

    private static void refuseAll(RingProver x) {
        Due.due("variable(6)", x.variable(6), -1);
        Due.due("join(6)", x.join(6), -1);
        Due.due("copy(12)", x.copy(12), -1);
        Due.due("replace(-1)", x.replace(-1), -1);
        Due.due("products(12)", x.products(12), -1);
        Due.due("has(0, 64)", x.has(0, 64), -1);
        Due.due("degree(-1)", x.degree(-1), -1);
        Due.due("models(12)", x.models(12), -1);
        Due.due("differ(0, 12)", x.differ(0, 12), -1);
    }
}
