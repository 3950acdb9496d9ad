/** Long mixed runs of calls, right and wrong ones, each answer compared with the model's. */
public final class ModelTest {
    private static final int RUNS = 3000;
    private static final int MIXED_CALLS = 448;

    private final RingProver x = new RingProver();
    private final Model model = new Model();
    private final int run;
    private long state;

    private ModelTest(int run) {
        this.run = run;
        this.state = run * 7919L + 1;
    }

    public static void main(String[] args) {
        for (int run = 0; run < RUNS; run++) {
            new ModelTest(run).play();
        }
        Due.finish("ModelTest");
    }

    // 448 calls and the 64 of the last formula's reading are the 512 that an object is good for.
    private void play() {
        for (int i = 0; i < MIXED_CALLS; i++) {
            oneCall(pick(100));
        }
        int k = pick(Math.max(1, model.size()));
        for (int product = 0; product < Due.ASSIGNMENTS; product++) {
            due("has(" + k + ", " + product + ")", x.has(k, product), model.has(k, product));
        }
    }

    private void oneCall(int choice) {
        if (choice < 22) {
            int v = mostlyBelow(6);
            due("variable(" + v + ")", x.variable(v), model.variable(v));
        } else if (choice < 25) {
            int bit = pick(1000) - 500;
            due("constant(" + bit + ")", x.constant(bit), model.constant(bit));
        } else if (choice < 40) {
            int sort = mostlyBelow(6);
            due("join(" + sort + ")", x.join(sort), model.join(sort));
        } else if (choice < 45) {
            due("not()", x.not(), model.not());
        } else if (choice < 56) {
            int k = someFormula();
            due("copy(" + k + ")", x.copy(k), model.copy(k));
        } else if (choice < 60) {
            due("drop()", x.drop(), model.drop());
        } else if (choice < 70) {
            int v = mostlyBelow(6);
            due("replace(" + v + ")", x.replace(v), model.replace(v));
        } else {
            oneQuestion(choice - 70);
        }
    }

    private void oneQuestion(int choice) {
        int k = someFormula();
        if (choice < 6) {
            due("products(" + k + ")", x.products(k), model.products(k));
        } else if (choice < 12) {
            int product = mostlyBelow(64);
            due("has(" + k + ", " + product + ")", x.has(k, product), model.has(k, product));
        } else if (choice < 18) {
            due("degree(" + k + ")", x.degree(k), model.degree(k));
        } else if (choice < 24) {
            due("models(" + k + ")", x.models(k), model.models(k));
        } else {
            int l = someFormula();
            due("differ(" + k + ", " + l + ")", x.differ(k, l), model.differ(k, l));
        }
    }

    private void due(String call, int got, int want) {
        Due.due("run " + run + ": " + call, got, want);
    }

    private int someFormula() {
        return mostlyBelow(Math.max(1, model.size()));
    }

    private int mostlyBelow(int bound) {
        switch (pick(20)) {
            case 0:
                return bound;
            case 1:
                return -1 - pick(3);
            case 2:
                return pick(4 * bound);
            default:
                return pick(bound);
        }
    }

    // A fixed row of numbers, so that every run of the tests is the same.
    private int pick(int bound) {
        state = state * 6364136223846793005L + 1442695040888963407L;
        return (int) ((state >>> 33) % bound);
    }
}
