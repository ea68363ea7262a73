/** Long runs of mixed calls, right and wrong ones, each answer against the model's and the state after each call. */
public final class MixedRunsTest {
    private static final int RUNS = 400;
    // Each step is one call and one look at the state: 512 calls, all that an object is good for.
    private static final int STEPS = 256;
    private static final int[] WRONG = {-1, 4, 8, 1001, 4096, 4672, Integer.MIN_VALUE, Integer.MAX_VALUE};

    private static final Check check = new Check();
    private static long seed;

    public static void main(String[] args) {
        for (int run = 1; run <= RUNS; run++) {
            seed = run;
            SandpileLab x = new SandpileLab();
            Model model = new Model();
            for (int step = 1; step <= STEPS; step++) {
                String at = "run " + run + ", step " + step + ": ";
                oneCall(at, x, model);
                check.same(at + "state() after it", x.state(), model.state());
            }
        }
        check.end();
    }

    private static void oneCall(String at, SandpileLab x, Model model) {
        int kind = pick(24);
        int a = now(8) ? wrong() : pick(4);
        int b = now(8) ? wrong() : pick(4);
        int p = stateNumber(model);
        int q = stateNumber(model);
        boolean there = pick(3) != 0;
        int count = now(6) ? wrong() : pick(4);
        int grains = now(8) ? wrong() : now(3) ? pick(1003) - 1 : pick(9);
        switch (kind) {
            case 0 -> check.same(at + "edge(" + a + ", " + b + ", " + there + ")", x.edge(a, b, there), model.edge(a, b, there));
            case 1 -> check.same(at + "sink(" + a + ", " + count + ")", x.sink(a, count), model.sink(a, count));
            case 2, 3, 4 -> check.same(at + "set(" + p + ")", x.set(p), model.set(p));
            case 5, 6 -> check.same(at + "degree(" + a + ")", x.degree(a), model.degree(a));
            case 7, 8 -> check.same(at + "recurrent(" + p + ")", x.recurrent(p), model.recurrent(p));
            case 9 -> check.same(at + "order()", x.order(), model.order());
            case 10 -> check.same(at + "neutral()", x.neutral(), model.neutral());
            case 11, 12 -> check.same(at + "opposite(" + p + ")", x.opposite(p), model.opposite(p));
            case 13, 14 -> check.same(at + "groupSum(" + p + ", " + q + ")", x.groupSum(p, q), model.groupSum(p, q));
            case 15 -> check.same(at + "orderOf(" + p + ")", x.orderOf(p), model.orderOf(p));
            case 16, 17 -> check.same(at + "recurrentOf(" + p + ")", x.recurrentOf(p), model.recurrentOf(p));
            default -> check.same(at + "drop(" + a + ", " + grains + ")", x.drop(a, grains), model.drop(a, grains));
        }
    }

    private static int stateNumber(Model model) {
        if (now(8)) {
            return wrong();
        }
        if (now(4)) {
            return pick(4096);
        }
        int number = 0;
        for (int a = 0; a < 4; a++) {
            number = number * 8 + pick(model.degree(a));
        }
        return number;
    }

    private static boolean now(int outOf) {
        return pick(outOf) == 0;
    }

    private static int wrong() {
        return WRONG[pick(WRONG.length)];
    }

    /** The same numbers in every run of the test, so that a fault found once is found again. */
    private static int pick(int below) {
        seed = seed * 6364136223846793005L + 1442695040888963407L;
        return (int) ((seed >>> 33) % below);
    }
}
