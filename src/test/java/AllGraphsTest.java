/** Every graph there is, 64 sets of edges with 16 choices of edges to the sink, against the model. */
public final class AllGraphsTest {
    // An object is good for 512 calls; building a graph takes ten of them.
    private static final int CALLS_PER_OBJECT = 500;

    private static final Check check = new Check();
    private static SandpileLab lab;
    private static int callsLeft;
    private static int graph;

    public static void main(String[] args) {
        for (graph = 0; graph < Graphs.COUNT; graph++) {
            callsLeft = 0;
            Model model = Graphs.model(graph);
            numbersOfTheGraph(model);
            everyState(model);
            everySum(model);
            greatDrops(model);
        }
        check.end();
    }

    private static void numbersOfTheGraph(Model model) {
        for (int a = 0; a < 4; a++) {
            due("degree", a, 0, lab().degree(a), model.degree(a));
        }
        due("order", 0, 0, lab().order(), model.order());
        due("order, as spanning trees", 0, 0, lab().order(), model.spanningTrees());
        due("neutral", 0, 0, lab().neutral(), model.neutral());
    }

    private static void everyState(Model model) {
        for (int state = -2; state < 4100; state++) {
            boolean stable = model.stable(state);
            due("set", state, 0, lab().set(state), stable);
            due("recurrent", state, 0, lab().recurrent(state), model.recurrent(state));
            due("opposite", state, 0, lab().opposite(state), model.opposite(state));
            due("orderOf", state, 0, lab().orderOf(state), orderOf(model, state));
            due("recurrentOf", state, 0, lab().recurrentOf(state), model.recurrentOf(state));
            if (stable) {
                drops(model, state);
            }
        }
    }

    /** The model takes k times the state anew for each k, too slow for all graphs: else one sum more each time. */
    private static int orderOf(Model model, int state) {
        if (graph % 61 == 0 || !model.recurrent(state)) {
            return model.orderOf(state);
        }
        int k = 1;
        for (int multiple = state; multiple != model.neutral(); multiple = model.groupSum(multiple, state)) {
            k++;
        }
        return k;
    }

    private static void drops(Model model, int state) {
        for (int place = 0; place < 4; place++) {
            for (int grains = 1; grains <= 16; grains *= 4) {
                oneDrop(model, state, place, grains);
            }
        }
    }

    /** The model takes long for these: they are made from the empty and the full state alone. */
    private static void greatDrops(Model model) {
        int full = Numbers.full(Case.degrees(graph));
        for (int place = 0; place < 4; place++) {
            for (int grains = 999; grains <= 1000; grains++) {
                oneDrop(model, 0, place, grains);
                oneDrop(model, full, place, grains);
            }
        }
    }

    private static void oneDrop(Model model, int state, int place, int grains) {
        SandpileLab x = lab();
        callsLeft -= 2;
        x.set(state);
        model.set(state);
        due("drop", place, grains, x.drop(place, grains), model.drop(place, grains));
        due("state after drop", place, grains, x.state(), model.state());
    }

    private static void everySum(Model model) {
        for (int p = 0; p < 4096; p++) {
            for (int q = 0; model.stable(p) && q < 4096; q++) {
                // Of the many numbers that are no stable state's, some are enough here.
                if (model.stable(q) || q % 97 == 0) {
                    due("groupSum", p, q, lab().groupSum(p, q), model.groupSum(p, q));
                }
            }
        }
    }

    private static SandpileLab lab() {
        if (callsLeft <= 10) {
            lab = Graphs.lab(graph);
            callsLeft = CALLS_PER_OBJECT;
        }
        callsLeft--;
        return lab;
    }

    private static void due(String call, int first, int second, boolean got, boolean want) {
        due(call, first, second, got ? 1 : 0, want ? 1 : 0);
    }

    private static void due(String call, int first, int second, int got, int want) {
        // The name is made only when it is printed: there are millions of calls.
        check.same(got == want ? call : call + "(" + first + ", " + second + ") on graph " + graph, got, want);
    }
}
