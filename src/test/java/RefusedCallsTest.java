import java.util.ArrayList;
import java.util.List;
import java.util.function.Predicate;

/**
 * Promise 15 by itself: refused calls of all kinds, one after another on one object, with calls that are
 * taken between them. The model gets only those that are taken; the object is used up to its 512th call.
 */
public final class RefusedCallsTest {
    private static final int CALLS_OF_AN_OBJECT = 512;
    private static final int REFUSED_IN_A_ROW = 8;

    private static final Check check = new Check();

    private record Refused(String name, Predicate<SandpileLab> isRefused) {
    }

    public static void main(String[] args) {
        for (Case each : Case.all()) {
            refusedCallsBetweenTakenOnes(each);
            refusedCallsUpToTheLast(each);
        }
        check.end();
    }

    private static void refusedCallsBetweenTakenOnes(Case each) {
        SandpileLab x = each.lab();
        Model model = each.model();
        int made = 0;
        for (Refused call : refusedCalls(each)) {
            check.same(call.name(), call.isRefused().test(x), true);
            made++;
            if (made % REFUSED_IN_A_ROW == 0) {
                String after = " after " + call.name() + " and others";
                int a = made / REFUSED_IN_A_ROW % 4;
                check.same("15: state()" + after, x.state(), model.state());
                check.same("15: drop(" + a + ", 3)" + after, x.drop(a, 3), model.drop(a, 3));
                check.same("15: degree(" + a + ")" + after, x.degree(a), model.degree(a));
            }
            if (made == REFUSED_IN_A_ROW * 40) {
                each.nextCalls(check, "15: " + made + " refused calls", x, model);
                x = each.lab();
                model = each.model();
                made = 0;
            }
        }
        each.nextCalls(check, "15: " + made + " refused calls", x, model);
    }

    /** However often it refuses, an object is good for 512 calls, and the last of them shows that nothing changed. */
    private static void refusedCallsUpToTheLast(Case each) {
        List<Refused> calls = refusedCalls(each);
        SandpileLab x = each.lab();
        int made = Case.CALLS_TO_MAKE_ONE;
        for (; made < CALLS_OF_AN_OBJECT - 2; made++) {
            Refused call = calls.get(made % calls.size());
            check.same(call.name(), call.isRefused().test(x), true);
        }
        Model model = each.model();
        check.same("15: drop(1, 1000), the 511th call", x.drop(1, 1000), model.drop(1, 1000));
        check.same("15: state(), the 512th call", x.state(), model.state());
    }

    private static List<Refused> refusedCalls(Case each) {
        List<Refused> calls = new ArrayList<>();
        for (int a = 0; a < 4; a++) {
            int place = a;
            calls.add(new Refused("15: edge(" + a + " twice)", x -> !x.edge(place, place, true)));
            for (int wrong : Numbers.NO_SINK_COUNTS) {
                calls.add(new Refused("15: sink(" + a + ", " + wrong + ")", x -> !x.sink(place, wrong)));
            }
            for (int wrong : Numbers.NO_GRAINS) {
                calls.add(new Refused("15: drop(" + a + ", " + wrong + ")", x -> isBad(x.drop(place, wrong))));
            }
        }
        for (int wrong : Numbers.NO_PLACES) {
            calls.add(new Refused("15: edge(" + wrong + ", 1)", x -> !x.edge(wrong, 1, true)));
            calls.add(new Refused("15: edge(2, " + wrong + ")", x -> !x.edge(2, wrong, false)));
            calls.add(new Refused("15: sink(" + wrong + ", 2)", x -> !x.sink(wrong, 2)));
            calls.add(new Refused("15: drop(" + wrong + ", 5)", x -> isBad(x.drop(wrong, 5))));
            calls.add(new Refused("15: degree(" + wrong + ")", x -> isBad(x.degree(wrong))));
        }
        for (int wrong : Numbers.noStableStates(each.degrees())) {
            calls.add(new Refused("15: set(" + wrong + ")", x -> !x.set(wrong)));
            calls.add(new Refused("15: recurrent(" + wrong + ")", x -> !x.recurrent(wrong)));
            calls.add(new Refused("15: opposite(" + wrong + ")", x -> isBad(x.opposite(wrong))));
            calls.add(new Refused("15: groupSum(" + wrong + ", 0)", x -> isBad(x.groupSum(wrong, 0))));
            calls.add(new Refused("15: groupSum(0, " + wrong + ")", x -> isBad(x.groupSum(0, wrong))));
            calls.add(new Refused("15: orderOf(" + wrong + ")", x -> isBad(x.orderOf(wrong))));
            calls.add(new Refused("15: recurrentOf(" + wrong + ")", x -> isBad(x.recurrentOf(wrong))));
        }
        return calls;
    }

    private static boolean isBad(int answer) {
        return answer == SandpileLab.BAD;
    }
}
