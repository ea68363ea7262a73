import java.util.Arrays;
import java.util.List;
import java.util.function.Consumer;

/**
 * On every graph there is: an object that was asked a question (promises 5 and 7 to 14), or that refused a
 * call (promise 15), answers all later calls as does one on which that call was never made.
 */
public final class UnchangedTest {
    private static final Check check = new Check();

    private record Call(String name, Consumer<SandpileLab> made) {
    }

    public static void main(String[] args) {
        for (int graph = 0; graph < Graphs.COUNT; graph++) {
            int full = Numbers.full(Case.degrees(graph));
            List<Call> questions = questions(full, Graphs.lab(graph).neutral());
            List<Call> refused = refused(full);
            for (Case each : Case.on(graph)) {
                int[] due = laterAnswers(each.lab());
                leavesAsItWas(each, questions, due);
                leavesAsItWas(each, refused, due);
            }
        }
        check.end();
    }

    private static void leavesAsItWas(Case each, List<Call> calls, int[] due) {
        SandpileLab afterAll = each.lab();
        for (Call call : calls) {
            SandpileLab x = each.lab();
            call.made().accept(x);
            call.made().accept(afterAll);
            sameAnswers(call.name(), each, laterAnswers(x), due);
        }
        sameAnswers("all of these calls", each, laterAnswers(afterAll), due);
    }

    private static void sameAnswers(String call, Case each, int[] got, int[] due) {
        boolean same = Arrays.equals(got, due);
        check.same(same ? call : "the same later answers after " + call + " on " + each + ", " + Arrays.toString(got)
            + " for " + Arrays.toString(due), same, true);
    }

    /** Enough calls to show every edge and every grain; they leave other grains behind. */
    private static int[] laterAnswers(SandpileLab x) {
        int[] answers = new int[26];
        int at = 0;
        int state = x.state();
        answers[at++] = state;
        answers[at++] = x.neutral();
        answers[at++] = x.groupSum(state, state);
        answers[at++] = x.orderOf(x.recurrentOf(state));
        answers[at++] = x.recurrentOf(state);
        answers[at++] = x.recurrent(state) ? 1 : 0;
        for (int a = 0; a < 4; a++) {
            answers[at++] = x.drop(a, 1);
            answers[at++] = x.state();
        }
        for (int a = 0; a < 4; a++) {
            x.set(0);
            int degree = x.degree(a);
            answers[at++] = degree;
            answers[at++] = x.drop(a, degree);
            answers[at++] = x.state();
        }
        return answers;
    }

    private static List<Call> questions(int full, int neutral) {
        return List.of(
            new Call("state()", SandpileLab::state),
            new Call("degree(0)", x -> x.degree(0)),
            new Call("degree(3)", x -> x.degree(3)),
            new Call("degree(4)", x -> x.degree(4)),
            new Call("recurrent(0)", x -> x.recurrent(0)),
            new Call("recurrent(full)", x -> x.recurrent(full)),
            new Call("recurrent(4096)", x -> x.recurrent(4096)),
            new Call("order()", SandpileLab::order),
            new Call("neutral()", SandpileLab::neutral),
            new Call("opposite(neutral)", x -> x.opposite(neutral)),
            new Call("opposite(full)", x -> x.opposite(full)),
            new Call("opposite(0)", x -> x.opposite(0)),
            new Call("opposite(-1)", x -> x.opposite(-1)),
            new Call("groupSum(0, 0)", x -> x.groupSum(0, 0)),
            new Call("groupSum(full, neutral)", x -> x.groupSum(full, neutral)),
            new Call("groupSum(full, 4095)", x -> x.groupSum(full, 4095)),
            new Call("groupSum(4095, full)", x -> x.groupSum(4095, full)),
            new Call("orderOf(neutral)", x -> x.orderOf(neutral)),
            new Call("orderOf(full)", x -> x.orderOf(full)),
            new Call("orderOf(0)", x -> x.orderOf(0)),
            new Call("orderOf(4095)", x -> x.orderOf(4095)),
            new Call("recurrentOf(0)", x -> x.recurrentOf(0)),
            new Call("recurrentOf(full)", x -> x.recurrentOf(full)),
            new Call("recurrentOf(4095)", x -> x.recurrentOf(4095)));
    }

    private static List<Call> refused(int full) {
        return List.of(
            new Call("edge(-1, 0, true)", x -> x.edge(-1, 0, true)),
            new Call("edge(4, 0, false)", x -> x.edge(4, 0, false)),
            new Call("edge(3, -1, false)", x -> x.edge(3, -1, false)),
            new Call("edge(3, 4, true)", x -> x.edge(3, 4, true)),
            new Call("edge(0, 0, true)", x -> x.edge(0, 0, true)),
            new Call("edge(2, 2, false)", x -> x.edge(2, 2, false)),
            new Call("sink(-1, 1)", x -> x.sink(-1, 1)),
            new Call("sink(4, 2)", x -> x.sink(4, 2)),
            new Call("sink(0, 0)", x -> x.sink(0, 0)),
            new Call("sink(3, 3)", x -> x.sink(3, 3)),
            new Call("drop(-1, 1)", x -> x.drop(-1, 1)),
            new Call("drop(4, 1)", x -> x.drop(4, 1)),
            new Call("drop(0, -1)", x -> x.drop(0, -1)),
            new Call("drop(3, 1001)", x -> x.drop(3, 1001)),
            new Call("set(-1)", x -> x.set(-1)),
            new Call("set(full and one grain at 0)", x -> x.set(full + 512)),
            new Call("set(full and one grain at 3)", x -> x.set(full + 1)),
            new Call("set(4096)", x -> x.set(4096)));
    }
}
