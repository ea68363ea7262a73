import java.util.ArrayList;
import java.util.List;
import java.util.function.Predicate;
import java.util.function.ToIntFunction;

/**
 * A graph with grains on it, from which one call is made on a new object; then what the next calls
 * show is looked at against a model. A call that is refused is not made on the model at all.
 */
record Case(int graph, int state) {
    static final int CALLS_TO_MAKE_ONE = 11;

    private static final int[] GRAPHS = {Graphs.NO_EDGES, Graphs.LONE_TWOS, Graphs.PAIR, Graphs.STAR,
        Graphs.UNEVEN_RING, Graphs.ALL};

    /** Six graphs, from the least to the greatest. */
    static List<Case> all() {
        List<Case> cases = new ArrayList<>();
        for (int graph : GRAPHS) {
            cases.addAll(on(graph));
        }
        return cases;
    }

    /** A graph with the empty state, the full one, and one other where there is one. */
    static List<Case> on(int graph) {
        int full = Numbers.full(degrees(graph));
        return full == 0
            ? List.of(new Case(graph, 0))
            : List.of(new Case(graph, 0), new Case(graph, full), new Case(graph, between(graph)));
    }

    static int[] degrees(int graph) {
        Model model = Graphs.model(graph);
        return new int[] {model.degree(0), model.degree(1), model.degree(2), model.degree(3)};
    }

    private static int between(int graph) {
        int[] degrees = degrees(graph);
        int state = 0;
        for (int place = 0; place < 4; place++) {
            state += (place + 1) % degrees[place] * Numbers.unit(place);
        }
        return state;
    }

    int[] degrees() {
        return degrees(graph);
    }

    int full() {
        return Numbers.full(degrees());
    }

    void refused(Check check, String call, Predicate<SandpileLab> made) {
        SandpileLab lab = lab();
        check.same(call + at(), made.test(lab), false);
        nextCalls(check, call, lab, model());
    }

    void bad(Check check, String call, ToIntFunction<SandpileLab> made) {
        answers(check, call, made, SandpileLab.BAD);
    }

    /** A call that answers a number and changes nothing. */
    void answers(Check check, String call, ToIntFunction<SandpileLab> made, int due) {
        SandpileLab lab = lab();
        check.same(call + at(), made.applyAsInt(lab), due);
        nextCalls(check, call, lab, model());
    }

    /** A call that is taken and answers true: the same one is made on the model. */
    void taken(Check check, String call, Predicate<SandpileLab> made, Predicate<Model> onModel) {
        SandpileLab lab = lab();
        Model model = model();
        check.same(call + at(), made.test(lab), true);
        check.same(call + at() + " on the model", onModel.test(model), true);
        nextCalls(check, call, lab, model);
    }

    /** A call that answers a number: the same one is made on the model, and answers what is due. */
    void asOnModel(Check check, String call, ToIntFunction<SandpileLab> made, ToIntFunction<Model> onModel) {
        SandpileLab lab = lab();
        Model model = model();
        check.same(call + at(), made.applyAsInt(lab), onModel.applyAsInt(model));
        nextCalls(check, call, lab, model);
    }

    SandpileLab lab() {
        SandpileLab lab = Graphs.lab(graph);
        lab.set(state);
        return lab;
    }

    Model model() {
        Model model = Graphs.model(graph);
        model.set(state);
        return model;
    }

    private String at() {
        return " on graph " + graph + " with state " + state;
    }

    /** Some thirty calls, which leave other grains behind. */
    void nextCalls(Check check, String call, SandpileLab lab, Model model) {
        String after = " after " + call + at();
        check.same("state()" + after, lab.state(), model.state());
        for (int a = 0; a < 4; a++) {
            check.same("degree(" + a + ")" + after, lab.degree(a), model.degree(a));
        }
        check.same("order()" + after, lab.order(), model.order());
        check.same("neutral()" + after, lab.neutral(), model.neutral());
        int now = model.state();
        check.same("groupSum(" + now + ", " + now + ")" + after, lab.groupSum(now, now), model.groupSum(now, now));
        for (int a = 0; a < 4; a++) {
            drop(check, after, lab, model, a, 1);
        }
        // On an empty state, as many grains as the degree show which places are neighbours.
        for (int a = 0; a < 4; a++) {
            check.same("set(0)" + after, lab.set(0), model.set(0));
            drop(check, after, lab, model, a, model.degree(a));
        }
    }

    private static void drop(Check check, String after, SandpileLab lab, Model model, int a, int grains) {
        String call = "drop(" + a + ", " + grains + ")";
        check.same(call + after, lab.drop(a, grains), model.drop(a, grains));
        check.same("state() after " + call + after, lab.state(), model.state());
    }
}
